/** All that can be seen of an object, as a text. Taking it changes nothing. */
final class Picture {
    private Picture() {
    }

    /** What undoing and going back bring back: all but the TAPE, fault() and the acts that are remembered. */
    static String state(AllSawIt x) {
        StringBuilder all = new StringBuilder();
        for (int what = 0; what <= 11; what++) {
            put(all, "count" + what, x.count(what));
        }
        for (int h = 0; h < x.count(0); h++) {
            for (int what = 0; what <= 10; what++) {
                put(all, "house" + h + "," + what, x.house(h, what));
            }
        }
        for (int d = 0; d < x.count(1); d++) {
            for (int what = 0; what <= 8; what++) {
                put(all, "deed" + d + "," + what, x.deed(d, what));
            }
        }
        for (int ago = 0; ago < x.count(11); ago++) {
            for (int what = 0; what <= 2; what++) {
                put(all, "log" + ago + "," + what, x.log(ago, what));
            }
        }
        for (int place = 0; place < 24; place++) {
            for (int hour = 0; hour < 24; hour++) {
                put(all, "witnesses" + place + "," + hour, x.witnesses(place, hour));
            }
        }
        put(all, "seed", seed(x));
        return all.toString();
    }

    static String all(AllSawIt x) {
        StringBuilder all = new StringBuilder(state(x));
        put(all, "tape", tape(x));
        put(all, "fault", x.fault());
        put(all, "acts", x.count(12));
        return all.toString();
    }

    private static void put(StringBuilder all, String what, int n) {
        all.append(what).append('=').append(n).append(' ');
    }

    static int seed(AllSawIt x) {
        int seed = x.seed(0);
        x.seed(seed);
        return seed;
    }

    /** How many bytes the TAPE has: to end it there leaves it as it is. */
    static int tape(AllSawIt x) {
        int n = 400;
        while (n > 0 && !x.end(n)) {
            n--;
        }
        return n;
    }
}
