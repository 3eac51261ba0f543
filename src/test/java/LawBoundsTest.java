/** The boundaries of the texts of THE LAW and of what it means, sentence by sentence. */
public final class LawBoundsTest {
    private LawBoundsTest() {
    }

    public static void main(String[] args) {
        inPlaceOfTheOneBefore();
        lines();
        seeAndBlind();
        conditions();
        atoms();
        sums();
        numbers();
        apart();
        upAndAway();
        window();
        someSeeAndNoBlind();
        withoutAText();
        wordsAndBlanks();
        depth();
        firstWrongByte();
        lawCall();
        faultCall();
        Check.end();
    }

    /** Whether the condition holds for the only HOUSE, at 3, its WINDOW 2 to 6, UP from 20 on for 6 HOURS. */
    private static boolean holds(String condition, int place, int hour) {
        return Check.street("house 3 sees 2 to 6 up 20 for 6", "see if " + condition).sees(0, place, hour);
    }

    private static void truth(String condition, boolean due) {
        Check.due(condition, holds(condition, 0, 0), due);
    }

    private static void inPlaceOfTheOneBefore() {
        Check.sentence("THE LAW (a text, in place of the one before)");
        AllSawIt x = Check.street("house 3 sees 2 to 6 up 20 for 6", "see;see;blind if place > 9");
        Check.due("the first", x.sees(0, 9, 0), true);
        Check.due("its blind LINE", x.sees(0, 10, 0), false);
        Check.tell(x, "see if place > 8");
        Check.due("LINES of the next", x.law(), 1);
        Check.due("LINES", x.count(3), 1);
        Check.due("no see LINE of the first holds", x.sees(0, 8, 0), false);
        Check.due("no blind LINE of the first holds", x.sees(0, 10, 0), true);
        Check.tell(x, "");
        Check.due("none at all", x.law(), 0);
        Check.due("LINES", x.count(3), 0);
        Check.due("the next is gone, too", x.sees(0, 10, 0), false);
    }

    private static void lines() {
        Check.sentence("LINE { ; LINE }, at most 12");
        Told.rightLaw("see", 1);
        Told.rightLaw(Told.lines("see", 12), 12);
        Told.rightLaw(Told.lines("blind if up", 12), 12);
        Told.wrongLaw(Told.lines("see", 12) + ";  ^see");
        Told.wrongLaw(Told.lines("see", 12) + ";  ^blind if up");
        Told.wrongLaw(Told.lines("see", 12) + ";^");
        Told.wrongLaw("^;see");
        Told.wrongLaw("see;^");
        Told.wrongLaw("see;^;see");
        Told.wrongLaw("see ^see");
        Told.wrongLaw("see^,see");
        AllSawIt x = Check.street("house 3 sees 2 to 6 up 20 for 6", Told.lines("see", 11) + ";blind if place < 1");
        Check.due("the 12th LINE counts", x.sees(0, 0, 0), false);
        Check.due("the others, too", x.sees(0, 1, 0), true);
    }

    private static void seeAndBlind() {
        Check.sentence("see [ if C ] | blind [ if C ].");
        Told.rightLaw("see", 1);
        Told.rightLaw("blind", 1);
        Told.rightLaw("see if up", 1);
        Told.rightLaw("blind if up", 1);
        for (String word : new String[] {"see", "blind"}) {
            Told.wrongLaw(word + " if^");
            Told.wrongLaw(word + " if  ^");
            Told.wrongLaw(word + " if ^;" + word);
            Told.wrongLaw(word + " if ^if up");
            Told.wrongLaw(word + " if ^" + word);
            Told.wrongLaw(word + " ^up");
            Told.wrongLaw(word + " ^1 < 2");
            Told.wrongLaw(word + " ^(up)");
            Told.wrongLaw(word + " ^" + word);
            Told.wrongLaw("^" + word + "x");
            Told.wrongLaw("^" + word.substring(1));
        }
        Told.wrongLaw("^if up");
        Told.wrongLaw("^up");
        Told.wrongLaw("^sees");
        Told.wrongLaw("^mists 1");
    }

    private static void conditions() {
        Check.sentence("C: ALL { or ALL }; ALL: ATOM { and ATOM };");
        String[] sign = {"2 < 1", "1 < 2"};
        for (int a = 0; a < 2; a++) {
            truth(sign[a], a == 1);
            for (int b = 0; b < 2; b++) {
                truth(sign[a] + " or " + sign[b], a + b > 0);
                truth(sign[a] + " and " + sign[b], a + b == 2);
                for (int c = 0; c < 2; c++) {
                    String[] three = {sign[a], sign[b], sign[c]};
                    truth(String.join(" or ", three), a + b + c > 0);
                    truth(String.join(" and ", three), a + b + c == 3);
                    truth(sign[a] + " or " + sign[b] + " and " + sign[c], a + b * c > 0);
                    truth(sign[a] + " and " + sign[b] + " or " + sign[c], a * b + c > 0);
                    truth("(" + sign[a] + " or " + sign[b] + ") and " + sign[c], (a + b) * c > 0);
                    truth(sign[a] + " and (" + sign[b] + " or " + sign[c] + ")", a * (b + c) > 0);
                }
            }
        }
        Told.wrongLaw("see if up and^");
        Told.wrongLaw("see if up or  ^");
        Told.wrongLaw("see if up and ^;see");
        Told.wrongLaw("see if up or ^and up");
        Told.wrongLaw("see if up and ^or up");
        Told.wrongLaw("see if ^and up");
        Told.wrongLaw("see if ^or up");
        Told.wrongLaw("see if up ^up");
        Told.wrongLaw("see if up ^not up");
        Told.wrongLaw("see if up ^(up)");
        // As many as a text of 400 bytes has room for.
        String ors = "2<1or".repeat(78);
        truth(ors + "1<2", true);
        truth(ors + "2<1", false);
        String ands = "1<2and".repeat(65);
        truth(ands + "1<2", true);
        truth(ands + "2<1", false);
    }

    private static void atoms() {
        Check.sentence("ATOM: not ATOM | ( C ) | up | away | window | SUM < SUM | SUM > SUM.");
        truth("not 2 < 1", true);
        truth("not 1 < 2", false);
        truth("not not 1 < 2", true);
        truth("not 1 < 2 or 1 < 2", true);
        truth("not (1 < 2 or 1 < 2)", false);
        truth("not 2 < 1 and 2 < 1", false);
        truth("not (2 < 1 and 2 < 1)", true);
        truth("7 < 8", true);
        truth("7 < 7", false);
        truth("8 < 7", false);
        truth("8 > 7", true);
        truth("7 > 7", false);
        truth("7 > 8", false);
        Told.wrongLaw("see if not^");
        Told.wrongLaw("see if not ^and up");
        Told.wrongLaw("see if not ^;see");
        Told.wrongLaw("see if (^");
        Told.wrongLaw("see if (^)");
        Told.wrongLaw("see if (up^");
        Told.wrongLaw("see if (up ^;see");
        Told.wrongLaw("see if (up ^up)");
        Told.wrongLaw("see if up^)");
        Told.wrongLaw("see if (up)^)");
        Told.wrongLaw("see if (1 ^) < 2");
        Told.wrongLaw("see if 1^");
        Told.wrongLaw("see if 1 ^and up");
        Told.wrongLaw("see if 1 ^= 1");
        Told.wrongLaw("see if 1 <^");
        Told.wrongLaw("see if 1 <^< 2");
        Told.wrongLaw("see if 1 <^= 2");
        Told.wrongLaw("see if 1 < 2 ^< 3");
        Told.wrongLaw("see if 1 < ^up");
        Told.wrongLaw("see if up ^< 1");
        Told.wrongLaw("see if ^< 1");
        Told.wrongLaw("see if 1 < ^(2)");
        Told.wrongLaw("see if 1 < ^not up");
        Told.wrongLaw("see if ^spite > 1");
        Told.wrongLaw("see if ^?");
    }

    private static void sums() {
        Check.sentence("SUM: PART { + PART }; PART: NUMBER | house | place | hour | apart | fog | day.");
        truth("1 + 2 + 3 < 7", true);
        truth("1 + 2 + 3 < 6", false);
        truth("6 < 1 + 2 + 4", true);
        truth("6 < 1 + 2 + 3", false);
        // A sum begins anew in each comparison.
        truth("5 < 6 and 1 > 5", false);
        truth("5 > 6 or 1 < 2", true);
        String long1 = "999+".repeat(60) + "999";
        Check.due("61 numbers of 999", holds(long1 + " > 999 and 0 < 1", 0, 0), true);
        Check.due("as many to the right", holds("999 > " + long1, 0, 0), false);
        AllSawIt x = Check.street(Told.lines("house 3 sees 0 to 23 up 0 for 24", 8) + ";mists 9");
        Told.foggyDay(x, 9);
        x.days(6);
        Told.foggyDay(x, 7);
        Check.due("DAY", x.count(4), 8);
        part(x, "house", 7);
        part(x, "place", 23);
        part(x, "hour", 22);
        part(x, "apart", 20);
        part(x, "fog", 7);
        part(x, "day", 8);
        part(x, "5", 5);
        part(x, "house + place + hour + apart + fog + day + 5", 92);
        Told.wrongLaw("see if ^+ 1 < 2");
        Told.wrongLaw("see if 1 +^");
        Told.wrongLaw("see if 1 + ^< 2");
        Told.wrongLaw("see if 1 + ^+ 1 < 2");
        Told.wrongLaw("see if 1 < 2 +^");
        Told.wrongLaw("see if 1 < 2 + ^;see");
        Told.wrongLaw("see if 1 ^1 < 2");
        Told.wrongLaw("see if 1 ^- 1 < 2");
        Told.wrongLaw("see if place ^place < 2");
        Told.wrongLaw("see if ^places < 2");
        Told.wrongLaw("see if ^mists < 2");
    }

    /** Of the last HOUSE, at 3, of the last PLACE and the HOUR 22 the sum is just so much. */
    private static void part(AllSawIt x, String sum, int due) {
        Check.tell(x, "see if " + sum + " < " + due + " or " + sum + " > " + due);
        x.law();
        Check.due(sum + " is not " + due, x.sees(7, 23, 22), false);
        Check.tell(x, "see if " + sum + " < " + (due + 1) + " and " + sum + " + 1 > " + due);
        x.law();
        Check.due(sum + " is " + due, x.sees(7, 23, 22), true);
    }

    private static void numbers() {
        Check.sentence("All numbers are of 1 to 3 digits.");
        truth("0 < 1", true);
        truth("00 < 01", true);
        truth("000 < 001", true);
        truth("999 > 998", true);
        truth("998 + 1 < 999", false);
        truth("999 < 999 + 1", true);
        Told.wrongLaw("see if ^1000 > 1");
        Told.wrongLaw("see if ^0001 > 1");
        Told.wrongLaw("see if 1 > ^1000");
        Told.wrongLaw("see if 1 > 1 + ^0000");
        Told.wrongLaw("see if ^4294967297 > 0");
        Told.wrongLaw("see if ^99999999999999999999 > 0");
        Told.wrongLaw("see if ^-1 < 0");
    }

    private static void apart() {
        Check.sentence("Of a HOUSE, a PLACE and an HOUR: apart: how far the PLACE is from that of the HOUSE");
        for (int at : new int[] {0, 3, 23}) {
            for (int place = 0; place < 24; place++) {
                int far = place > at ? place - at : at - place;
                AllSawIt x = Check.street("house " + at + " sees 5 to 6 up 0 for 0", "see if apart < " + (far + 1)
                        + " and apart + 1 > " + far);
                Check.due(at + " and " + place, x.sees(0, place, 0), true);
                Check.tell(x, "see if apart < " + far + " or apart > " + far);
                x.law();
                Check.due(at + " and " + place + ", no less and no more", x.sees(0, place, 0), false);
            }
        }
    }

    private static void upAndAway() {
        Check.sentence("up, away: the HOUSE is (in that HOUR)");
        Check.due("ahead of its first HOUR", holds("up", 0, 19), false);
        Check.due("in its first HOUR", holds("up", 0, 20), true);
        Check.due("in the last HOUR of the DAY", holds("up", 0, 23), true);
        Check.due("behind 23 comes 0", holds("up", 0, 0), true);
        Check.due("in its last HOUR", holds("up", 0, 1), true);
        Check.due("behind it", holds("up", 0, 2), false);
        AllSawIt x = Check.street(Told.lines("house 3 sees 0 to 23 up 0 for 0", 8) + ";away 0;away 7", "see if away");
        Check.due("the first and the last are AWAY", x.witnesses(0, 0), 129);
        x.away(0, false);
        Check.due("one is back", x.witnesses(0, 0), 128);
        Check.tell(x, "see if up");
        x.law();
        Check.due("UP for no HOUR", x.witnesses(0, 0), 0);
        x.up(4, 0, 24);
        Check.due("UP for all HOURS", x.witnesses(0, 23), 16);
    }

    private static void window() {
        Check.sentence("window: the PLACE is in its WINDOW (with MIRRORS).");
        Check.due("ahead of it", holds("window", 1, 9), false);
        Check.due("its first PLACE", holds("window", 2, 9), true);
        Check.due("its last PLACE", holds("window", 6, 9), true);
        Check.due("behind it", holds("window", 7, 9), false);
        AllSawIt x = Check.street("house 3 sees 3 to 20 up 0 for 0", "see if window");
        for (int n = 1; n <= 3; n++) {
            x.mirror(0);
            Check.due("to the left with " + n, x.sees(0, 3 - n, 0), true);
            Check.due("to the right with " + n, x.sees(0, 20 + n, 0), true);
            Check.due("no farther to the left", n < 3 && x.sees(0, 2 - n, 0), false);
            Check.due("no farther to the right", n < 3 && x.sees(0, 21 + n, 0), false);
        }
    }

    private static void lawSees(String law, boolean due) {
        AllSawIt x = Check.street("house 3 sees 2 to 6 up 20 for 6", law);
        Check.due(law.isEmpty() ? "no LINE" : law, x.sees(0, 3, 20), due);
    }

    private static void someSeeAndNoBlind() {
        Check.sentence("SEES: some see LINE holds and no blind LINE.");
        lawSees("", false);
        lawSees("   ", false);
        lawSees("see", true);
        lawSees("blind", false);
        lawSees("see;blind", false);
        lawSees("blind;see", false);
        lawSees("see if 2 < 1", false);
        lawSees("see if 2 < 1;see", true);
        lawSees("see;see if 2 < 1", true);
        lawSees("see if 2 < 1;see if 2 < 1", false);
        lawSees("see;blind if 2 < 1", true);
        lawSees("blind if 2 < 1;see", true);
        lawSees("blind if 2 < 1", false);
        lawSees("blind if 2 < 1;see;blind", false);
        lawSees("see if 2 < 1;blind if 2 < 1;see if 1 < 2;blind if 2 < 1", true);
        lawSees(Told.lines("see if 2 < 1", 11) + ";see", true);
        lawSees("see;" + Told.lines("blind if 2 < 1", 10) + ";blind", false);
        // By a law, one that is asleep, away, or too far off may see.
        AllSawIt x = Check.street("house 0 sees 0 to 0 up 0 for 0;away 0", "see");
        Check.due("whatever else holds", x.sees(0, 23, 5), true);
    }

    private static void withoutAText() {
        Check.sentence("Without a text: up, in its window, not away, and apart is 12 less FOG at most.");
        AllSawIt x = Check.street("house 0 sees 0 to 23 up 0 for 24;house 23 sees 0 to 23 up 0 for 24;mists 9");
        Check.due("12 in clear air", x.sees(0, 12, 0), true);
        Check.due("13 in clear air", x.sees(0, 13, 0), false);
        for (int fog = 0; fog <= 9; fog++) {
            Told.foggyDay(x, fog);
            Check.due("to the right by FOG " + fog, x.sees(0, 12 - fog, 0), true);
            Check.due("no farther by FOG " + fog, x.sees(0, 13 - fog, 0), false);
            Check.due("to the left by FOG " + fog, x.sees(1, 11 + fog, 0), true);
            Check.due("no farther to the left by FOG " + fog, x.sees(1, 10 + fog, 0), false);
        }
        Check.due("its own PLACE", x.sees(0, 0, 0), true);
        x.away(0, true);
        Check.due("AWAY", x.sees(0, 0, 0), false);
        x.away(0, false);
        x.up(0, 1, 23);
        Check.due("not UP", x.sees(0, 0, 0), false);
        Check.due("UP", x.sees(0, 0, 1), true);
        AllSawIt y = Check.street("house 3 sees 2 to 6 up 0 for 24");
        Check.due("left of its window", y.sees(0, 1, 0), false);
        Check.due("in its window", y.sees(0, 2, 0), true);
        Check.due("LINES", y.count(3), -1);
    }

    /** The word behind the mark, with one letter another, or one too few: none of these is a word there. */
    private static void eachLetter(String marked) {
        int mark = marked.indexOf('^');
        int behind = marked.indexOf(' ', mark) < 0 ? marked.length() : marked.indexOf(' ', mark);
        Told.rightLaw(marked.replace("^", ""), 1);
        for (int i = mark + 1; i < behind; i++) {
            Told.wrongLaw(marked.substring(0, i) + "q" + marked.substring(i + 1));
            Told.wrongLaw(marked.substring(0, i) + marked.substring(i + 1));
            Told.wrongLaw(marked.substring(0, i) + "A" + marked.substring(i + 1));
        }
    }

    private static void wordsAndBlanks() {
        Check.sentence("Words are as long as a to z go on; between all there may be blanks (32), also ahead and "
                + "behind.");
        Told.rightLaw("see if(up)and(1<2)or not(window);blind if place+1>2and up", 2);
        Told.rightLaw("  see   if  ( up )  and 1  <  2   ;  blind  ", 2);
        Told.rightLaw(" ".repeat(397) + "see", 1);
        Told.rightLaw("see" + " ".repeat(397), 1);
        Told.wrongLaw("^seeif up");
        Told.wrongLaw("see ^ifup");
        Told.wrongLaw("see if ^upand up");
        Told.wrongLaw("see if ^notup");
        Told.wrongLaw("see if up ^andup");
        Told.wrongLaw("see if 1 < 2 ^anda up");
        eachLetter("^see if up");
        eachLetter("^blind if up");
        eachLetter("see ^if up");
        eachLetter("see if ^up");
        eachLetter("see if ^away");
        eachLetter("see if ^window");
        eachLetter("see if ^not up");
        eachLetter("see if up ^and up");
        eachLetter("see if up ^or up");
        for (String part : new String[] {"house", "place", "hour", "apart", "fog", "day"}) {
            eachLetter("see if ^" + part + " < 1");
            eachLetter("see if 1 + 1 > 1 + ^" + part);
        }
        for (char other = 0; other < 256; other++) {
            boolean letter = other >= 'a' && other <= 'z';
            if (other == ' ') {
                Told.rightLaw("see" + other + ";see", 2);
            } else if (other != '^') {
                Told.wrongLaw(letter ? "^see" + other + ";see" : other == ';' ? "see;^;see" : "see^" + other + ";see");
                Told.wrongLaw(other == ';' ? "see if up ;^up" : "see if up ^" + other + "up");
            }
        }
        Check.sentence("A text that is empty, or blanks alone, has no LINE.");
        for (String text : new String[] {"", " ", " ".repeat(400)}) {
            Check.due("LINES", Told.rightLaw(text, 0).count(3), 0);
        }
        Told.wrongLaw("  ^;");
    }

    private static void depth() {
        Check.sentence("( and not within one another at most 6 deep.");
        truth("((((((1 < 2))))))", true);
        truth("not not not not not not 1 < 2", true);
        truth("not not not not not 1 < 2", false);
        truth("not(not(not(1 < 2)))", false);
        truth("(not(not(not 1 < 2)))", false);
        truth("not((((not 1 < 2))))", true);
        Told.wrongLaw("see if ((((((^(1 < 2)))))))");
        Told.wrongLaw("see if not not not not not not ^not up");
        Told.wrongLaw("see if not(not(not(^not up)))");
        Told.wrongLaw("see if (not(not(not ^(up))))");
        Told.wrongLaw("see if ((((((up and ^not up))))))");
        Told.wrongLaw("see if ((((((up or ^(up)))))))");
        // Beside one another they do not add up.
        truth("((((((1 < 2)))))) and not not not not not not 1 < 2 or ((((((up))))))", true);
        truth("(((((1 < 2)) and ((1 < 2 and (1 < 2)))))) and (1 < 2)", true);
        truth("not (not 2 < 1 and not 2 < 1 and not 2 < 1 and not 2 < 1 and not 2 < 1 and not 2 < 1)", false);
        Told.rightLaw("see if ((((((up))))));see if ((((((up))))));blind if not not not not not not up", 3);
        Told.wrongLaw("see if ((((((up)))))) and ((((((^(up");
    }

    private static void firstWrongByte() {
        Check.sentence("the ( or not that is a 7th one deep;");
        Told.wrongLaw("see if ( ( ( ( ( (   ^( up");
        Told.wrongLaw("see if ( ( ( ( ( (   ^not up");
        Told.wrongLaw("see if not not not not not not   ^(");
        Check.sentence("of a LINE, a HOUSE, a DEED too many, the first word), or the text's length, if more must "
                + "come.");
        Told.wrongLaw(Told.lines("see if up", 12) + ";   ^see if nothing");
        Told.wrongLaw(Told.lines("see", 11) + ";see if ^nothing;see");
        Told.wrongLaw("see if up and" + " ".repeat(387) + "^");
        Told.wrongLaw("see;" + " ".repeat(396) + "^");
        Told.wrongLaw("see if (((up))  ^");
        Told.wrongLaw("see if ((((((^");
    }

    private static void lawCall() {
        Check.promise(5, "Uses the TAPE up: THE LAW: how many LINES. IllegalArgumentException: the text is wrong.");
        AllSawIt x = Told.rightLaw("see;blind if up;see", 3);
        Check.due("LINES", x.count(3), 3);
        Check.due("the TAPE is used up: a law without LINES", x.law(), 0);
        // The law of before stays, if a text is wrong.
        Told.wrongLaw("see;see;see ^now");
        Refusal.usingUp("the first law, wrong", IllegalArgumentException.class, () -> {
            AllSawIt y = Check.street("house 3 sees 2 to 6 up 20 for 6");
            Check.tell(y, "see;see if");
            return y;
        }, AllSawIt::law, 10);
        // Laws may be told as often as one likes.
        for (int n = 0; n < 20; n++) {
            Check.tell(x, "see");
            Check.due("one more law", x.law(), 1);
        }
        Check.due("it is no text of THE STREET", x.count(2), 0);
    }

    private static void faultCall() {
        Check.promise(6, "The first wrong byte of the latest text that was read; NONE without one, and ahead of any.");
        AllSawIt x = new AllSawIt();
        Check.due("ahead of any", x.fault(), -1);
        Check.tell(x, "?");
        Check.due("as it is not read yet", x.fault(), -1);
        Check.refused("street", IllegalArgumentException.class, x::street);
        Check.due("the first byte", x.fault(), 0);
        Check.due("asked once more", x.fault(), 0);
        Check.tell(x, " ".repeat(399) + "?");
        Check.refused("law", IllegalArgumentException.class, x::law);
        Check.due("the last byte", x.fault(), 399);
        Check.tell(x, "see" + " ".repeat(396) + ";");
        Check.refused("law", IllegalArgumentException.class, x::law);
        Check.due("the length", x.fault(), 400);
        Check.tell(x, "");
        x.street();
        Check.due("the latest is right", x.fault(), -1);
    }
}
