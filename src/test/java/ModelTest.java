import java.nio.charset.StandardCharsets;
import java.util.Random;

/** Long runs of calls by chance, each answer held against that of the Model. */
public final class ModelTest {
    private static final int RUNS = 200;
    private static final int CALLS = 512;

    private final Random chance;
    private final AllSawIt x = new AllSawIt();
    private final Model m = new Model();
    private final StringBuilder told = new StringBuilder();
    private int left = CALLS;

    private ModelTest(long seed) {
        chance = new Random(seed);
    }

    public static void main(String[] args) {
        int runs = args.length > 0 ? Integer.parseInt(args[0]) : RUNS;
        for (int run = 1; run <= runs; run++) {
            Check.part("run " + run);
            new ModelTest(run).go();
        }
        Check.end();
    }

    private int any(int least, int most) {
        return least + chance.nextInt(most - least + 1);
    }

    private boolean oneIn(int n) {
        return chance.nextInt(n) == 0;
    }

    /** Mostly within the bounds, at times just outside, or far. */
    private int near(int least, int most) {
        if (oneIn(40)) {
            int[] odd = {least - 1, most + 1, Integer.MIN_VALUE, Integer.MAX_VALUE, -2, 1 << 20};
            return odd[any(0, odd.length - 1)];
        }
        return any(least, Math.max(least, most));
    }

    private int house() {
        return near(0, x.count(0) - 1);
    }

    private int deed() {
        return near(0, x.count(1) - 1);
    }

    private boolean flip() {
        return chance.nextBoolean();
    }

    private void go() {
        boolean lawFirst = oneIn(2);
        text(false);
        if (lawFirst) {
            text(true);
        }
        while (left > 0) {
            oneCall();
        }
    }

    private void both(String call, Check.Call mine, Check.Call due) {
        left--;
        String want;
        try {
            want = "" + due.answer();
        } catch (RuntimeException e) {
            want = e.getClass().getSimpleName();
        }
        String got;
        try {
            got = "" + mine.answer();
        } catch (RuntimeException e) {
            got = e.getClass().getSimpleName();
            if (!Check.byItself(e)) {
                got = got + " from outside";
            }
        }
        Check.due(call + " " + got + " for " + want, got.equals(want) ? 1 : 0, 1);
    }

    private static long bool(boolean b) {
        return b ? 1 : 0;
    }

    // ---- texts ----

    private void feed(byte[] bytes) {
        both("end(0)", () -> bool(x.end(0)), () -> bool(m.end(0)));
        for (int from = 0; from < bytes.length; from += 20) {
            int[] n = Check.numbers(bytes, from);
            both("feed", () -> x.feed(n[0], n[1], n[2], n[3], n[4]), () -> m.feed(n[0], n[1], n[2], n[3], n[4]));
        }
        int length = bytes.length;
        both("end", () -> bool(x.end(length)), () -> bool(m.end(length)));
    }

    private void text(boolean law) {
        told.setLength(0);
        if (law) {
            lawText();
        } else {
            streetText();
        }
        if (told.length() > 400) {
            told.setLength(400);
        }
        if (oneIn(3)) {
            spoil();
        }
        String text = told.toString();
        feed(text.getBytes(StandardCharsets.ISO_8859_1));
        if (law) {
            both("law of " + text, x::law, m::law);
        } else {
            both("street of " + text, x::street, m::street);
        }
        both("fault of " + text, x::fault, m::fault);
    }

    private void spoil() {
        for (int n = any(1, 2); n > 0 && told.length() > 0; n--) {
            int at = any(0, told.length() - 1);
            switch (any(0, 4)) {
                case 0 -> told.deleteCharAt(at);
                case 1 -> told.insert(at, "; ()<>+a1\u00e9\0Hnot".charAt(any(0, 14)));
                case 2 -> told.setCharAt(at, (char) any(0, 255));
                case 3 -> told.setLength(at);
                default -> told.insert(at, " " + any(0, 1200) + " ");
            }
            if (told.length() > 400) {
                told.setLength(400);
            }
        }
    }

    private void put(Object thing) {
        boolean glue = told.length() == 0 || oneIn(3) && !joins(told.charAt(told.length() - 1), thing.toString().charAt(0));
        told.append(glue ? "" : oneIn(8) ? "   " : " ").append(thing);
    }

    private static boolean joins(char a, char b) {
        return Character.isLetter(a) && Character.isLetter(b) || Character.isDigit(a) && Character.isDigit(b);
    }

    private void number(int least, int most) {
        int n = oneIn(150) ? any(0, 1100) : any(least, Math.max(least, most));
        put(oneIn(20) ? String.format("%03d", n) : "" + n);
    }

    private void streetText() {
        int lines = oneIn(25) ? 0 : oneIn(20) ? any(13, 15) : any(1, 9);
        int houses = x.count(0);
        int deeds = x.count(1);
        for (int i = 0; i < lines; i++) {
            if (i > 0) {
                put(";");
            }
            int kind = any(0, 9);
            if (kind < 4 && (houses < 8 || oneIn(15))) {
                houseLine();
                houses++;
            } else if (kind < 8 && (deeds < 10 || oneIn(15))) {
                put("deed");
                number(0, 23);
                put("at");
                number(0, 23);
                if (deeds > 0 && flip() || oneIn(40)) {
                    put("hangs");
                    number(0, deeds - 1);
                }
                deeds++;
            } else if (kind < 9 || houses == 0) {
                put("mists");
                number(0, 9);
            } else {
                put("away");
                number(0, houses - 1);
            }
        }
        if (oneIn(5)) {
            told.append("  ");
        }
    }

    private void houseLine() {
        put("house");
        number(0, 23);
        put("sees");
        int from = any(0, 12);
        number(from, from);
        put("to");
        number(oneIn(30) ? 0 : from, 23);
        put("up");
        number(0, 23);
        put("for");
        number(oneIn(3) ? 0 : 15, 24);
        if (flip()) {
            put("spite");
            number(0, 9);
        }
    }

    private void lawText() {
        int lines = oneIn(12) ? 0 : oneIn(20) ? any(11, 13) : any(1, 3);
        for (int i = 0; i < lines; i++) {
            if (i > 0) {
                put(";");
            }
            put(i == 0 || flip() ? "see" : "blind");
            if (!oneIn(3)) {
                put("if");
                cond(0);
            }
        }
    }

    private void cond(int deep) {
        atom(deep);
        while (oneIn(3) && told.length() < 300) {
            put(flip() ? "and" : "or");
            atom(deep);
        }
    }

    private void atom(int deep) {
        int most = oneIn(30) ? 7 : 6;
        int kind = any(0, deep < most && told.length() < 300 ? 8 : 4);
        switch (kind) {
            case 0 -> put("up");
            case 1 -> put("away");
            case 2 -> put("window");
            case 3, 4 -> {
                sum();
                put(flip() ? "<" : ">");
                sum();
            }
            case 5, 6 -> {
                put("not");
                atom(deep + 1);
            }
            default -> {
                put("(");
                cond(deep + 1);
                put(")");
            }
        }
    }

    private void sum() {
        part();
        while (oneIn(4)) {
            put("+");
            part();
        }
    }

    private void part() {
        String[] words = {"house", "place", "hour", "apart", "fog", "day"};
        if (flip()) {
            put("" + any(0, flip() ? 9 : 24));
        } else {
            put(words[any(0, 5)]);
        }
    }

    private void rows() {
        int n = oneIn(30) ? any(11, 14) : any(0, 3);
        byte[] bytes = new byte[Math.max(0, 3 * n - (oneIn(30) ? 1 : 0))];
        for (int i = 0; i < bytes.length; i++) {
            int houses = Math.max(1, x.count(0));
            bytes[i] = (byte) (oneIn(60) ? any(0, 255) : any(0, i % 3 == 0 ? houses / 2 : i % 3 == 1 ? houses - 1 : 2));
        }
        feed(bytes);
    }

    // ---- calls ----

    private void oneCall() {
        int kind = any(0, 99);
        if (kind < 4) {
            text(oneIn(3));
        } else if (kind < 30) {
            act();
        } else if (kind < 40) {
            memory();
        } else if (kind < 60) {
            sight();
        } else if (kind < 75) {
            trial();
        } else {
            look();
        }
    }

    private void act() {
        int h = house();
        int d = deed();
        int hour = near(0, 23);
        boolean is = flip();
        switch (any(0, 9)) {
            case 0, 1 -> both("done " + d, () -> x.done(d), () -> m.done(d));
            case 2, 3 -> both("say " + h + " " + d, () -> bool(x.say(h, d)), () -> bool(m.say(h, d)));
            case 4 -> both("away " + h + is, () -> bool(x.away(h, is)), () -> bool(m.away(h, is)));
            case 5 -> both("mirror " + h, () -> x.mirror(h), () -> m.mirror(h));
            case 6 -> {
                int n = near(0, 24);
                both("up " + h + " " + hour + " " + n, () -> x.up(h, hour, n), () -> m.up(h, hour, n));
            }
            case 7 -> {
                int n = near(0, 9);
                both("spite " + h + " " + n, () -> x.spite(h, n), () -> m.spite(h, n));
            }
            case 8 -> both("lodger " + h, () -> x.lodger(h), () -> m.lodger(h));
            default -> {
                int n = oneIn(10) ? near(1, 60) : near(1, 3);
                both("days " + n, () -> x.days(n), () -> m.days(n));
            }
        }
    }

    private void memory() {
        switch (any(0, 9)) {
            case 0 -> both("image", () -> {
                x.image();
                return 0;
            }, () -> {
                m.image();
                return 0;
            });
            case 1 -> both("back", () -> bool(x.back()), () -> bool(m.back()));
            case 2 -> {
                int n = chance.nextInt();
                both("seed " + n, () -> x.seed(n), () -> m.seed(n));
            }
            default -> both("undo", () -> bool(x.undo()), () -> bool(m.undo()));
        }
    }

    private void sight() {
        int h = house();
        int p = near(0, 23);
        int q = near(0, 23);
        int t = near(0, 23);
        boolean is = flip();
        String at = " " + p + " " + t;
        switch (any(0, 13)) {
            case 0 -> both("sees " + h + at, () -> bool(x.sees(h, p, t)), () -> bool(m.sees(h, p, t)));
            case 1 -> both("witnesses" + at, () -> x.witnesses(p, t), () -> m.witnesses(p, t));
            case 2 -> both("open " + t + is, () -> x.open(t, is), () -> m.open(t, is));
            case 3 -> both("best", x::best, m::best);
            case 4 -> both("wake" + at, () -> x.wake(p, t), () -> m.wake(p, t));
            case 5 -> both("mirrors" + at, () -> x.mirrors(p, t), () -> m.mirrors(p, t));
            case 6 -> both("unseen " + p, () -> x.unseen(p), () -> m.unseen(p));
            case 7, 8 -> both("thief " + q + at, () -> x.thief(q, p, t), () -> m.thief(q, p, t));
            case 9 -> both("clear" + at, () -> x.clear(p, t), () -> m.clear(p, t));
            case 10 -> both("twins", x::twins, m::twins);
            case 11 -> both("eyes " + t, () -> x.eyes(t), () -> m.eyes(t));
            default -> {
                int who = flip() ? -1 : h;
                both("alone " + t + " " + who, () -> x.alone(t, who), () -> m.alone(t, who));
            }
        }
    }

    private void trial() {
        int d = deed();
        int fog = near(0, 9);
        int n = oneIn(4) ? near(0, 40) : near(0, 4);
        boolean is = flip();
        switch (any(0, 8)) {
            case 0 -> both("soonest " + d + " " + fog, () -> x.soonest(d, fog), () -> m.soonest(d, fog));
            case 1 -> both("ahead " + n + " " + fog, () -> x.ahead(n, fog), () -> m.ahead(n, fog));
            case 2 -> both("later " + fog, () -> x.later(fog), () -> m.later(fog));
            case 3 -> both("holds", x::holds, m::holds);
            case 4 -> {
                rows();
                both("denied " + is, () -> x.denied(is), () -> m.denied(is));
            }
            case 5 -> {
                rows();
                both("ask", x::ask, m::ask);
            }
            case 6 -> both("book " + is, () -> x.book(is), () -> m.book(is));
            case 7 -> both("trial " + n + is, () -> x.trial(n, is), () -> m.trial(n, is));
            default -> both("span " + n + is, () -> x.span(n, is), () -> m.span(n, is));
        }
    }

    private void look() {
        int h = house();
        int d = deed();
        int what = near(0, 12);
        boolean is = flip();
        switch (any(0, 6)) {
            case 0, 1 -> both("house " + h + " " + what, () -> x.house(h, what), () -> m.house(h, what));
            case 2, 3 -> both("deed " + d + " " + what, () -> x.deed(d, what), () -> m.deed(d, what));
            case 4 -> both("led " + h + is, () -> x.led(h, is), () -> m.led(h, is));
            case 5 -> {
                int ago = near(0, Math.max(2, x.count(11)));
                int row = near(0, 2);
                both("log " + ago + " " + row, () -> x.log(ago, row), () -> m.log(ago, row));
            }
            default -> both("count " + what, () -> x.count(what), () -> m.count(what));
        }
    }
}
