import java.nio.charset.StandardCharsets;
import java.util.ArrayDeque;
import java.util.ArrayList;
import java.util.Arrays;
import java.util.Deque;
import java.util.HashSet;
import java.util.List;
import java.util.NoSuchElementException;
import java.util.Set;
import java.util.TreeSet;
import java.util.regex.Matcher;
import java.util.regex.Pattern;

/**
 * The document once more, written apart from AllSawIt and in another way (lists, sets, trees and plain search),
 * so that the two can be held against each other.
 */
final class Model {
    static final int NONE = -1;

    /** A text is wrong at a byte. */
    private static final class Wrong extends Exception {
        private static final long serialVersionUID = 1L;
        final int at;

        Wrong(int at) {
            this.at = at;
        }
    }

    private static final class House implements Cloneable {
        int place;
        int left;
        int right;
        int from;
        int hours;
        int spite;
        int mirrors;
        boolean away;

        @Override
        public House clone() {
            try {
                return (House) super.clone();
            } catch (CloneNotSupportedException e) {
                throw new AssertionError(e);
            }
        }
    }

    private static final class Deed {
        int place;
        int hour;
        int hangs = NONE;
        Set<Integer> saw = new TreeSet<>();
        Set<Integer> said = new TreeSet<>();
        boolean so;

        Deed copy() {
            Deed d = new Deed();
            d.place = place;
            d.hour = hour;
            d.hangs = hangs;
            d.saw = new TreeSet<>(saw);
            d.said = new TreeSet<>(said);
            d.so = so;
            return d;
        }
    }

    /** What the law is asked of. */
    private record Look(House house, int number, int place, int hour, int fog, int day) {
        boolean isUp() {
            for (int i = 0; i < house.hours; i++) {
                if ((house.from + i) % 24 == hour) {
                    return true;
                }
            }
            return false;
        }

        boolean inWindow() {
            return place >= Math.max(0, house.left - house.mirrors) && place <= Math.min(23, house.right + house.mirrors);
        }

        int apart() {
            return Math.abs(place - house.place);
        }
    }

    private interface Cond {
        boolean holds(Look look);
    }

    private interface Value {
        int of(Look look);
    }

    private record LawLine(boolean see, Cond cond) {
    }

    private static final class World {
        List<House> houses = new ArrayList<>();
        List<Deed> deeds = new ArrayList<>();
        List<LawLine> law;
        List<int[]> words = new ArrayList<>();
        int texts;
        int fog;
        int mists;
        int day;
        int seed = 1;

        World copy() {
            World w = new World();
            for (House h : houses) {
                w.houses.add(h.clone());
            }
            for (Deed d : deeds) {
                w.deeds.add(d.copy());
            }
            w.law = law;
            w.words = new ArrayList<>(words);
            w.texts = texts;
            w.fog = fog;
            w.mists = mists;
            w.day = day;
            w.seed = seed;
            return w;
        }

        boolean sees(int h, int place, int hour) {
            Look look = new Look(houses.get(h), h, place, hour, fog, day);
            if (law == null) {
                return look.isUp() && look.inWindow() && !look.house.away && look.apart() <= 12 - fog;
            }
            boolean some = false;
            for (LawLine line : law) {
                boolean holds = line.cond.holds(look);
                if (line.see) {
                    some |= holds;
                }
            }
            for (LawLine line : law) {
                if (!line.see && line.cond.holds(look)) {
                    return false;
                }
            }
            return some;
        }

        Set<Integer> witnesses(int place, int hour) {
            Set<Integer> all = new TreeSet<>();
            for (int h = 0; h < houses.size(); h++) {
                if (sees(h, place, hour)) {
                    all.add(h);
                }
            }
            return all;
        }

        Set<Integer> view(int h, int hour) {
            Set<Integer> all = new TreeSet<>();
            for (int p = 0; p < 24; p++) {
                if (sees(h, p, hour)) {
                    all.add(p);
                }
            }
            return all;
        }

        int draw() {
            seed = (int) (1103515245L * seed + 12345L);
            return (int) ((seed & 0xffffffffL) >> 16 & 0x7fff);
        }

        boolean free(Deed d) {
            return d.hangs == NONE || deeds.get(d.hangs).so;
        }

        void askAnew() {
            for (Deed d : deeds) {
                boolean all = !houses.isEmpty();
                for (int h = 0; h < houses.size(); h++) {
                    all &= d.said.contains(h);
                }
                if (all && free(d)) {
                    d.so = true;
                }
            }
        }

        void word(int h, int d) {
            if (deeds.get(d).said.add(h)) {
                words.add(new int[] {day, h, d});
            }
        }

        void doDeed(Deed d) {
            d.saw.addAll(witnesses(d.place, d.hour));
        }

        /** told: NONE for draws. */
        void pass(int told) {
            fog = told == NONE ? Math.min(draw() % 10, mists) : told;
            for (Deed d : deeds) {
                if (!d.so && free(d)) {
                    doDeed(d);
                }
            }
            for (int h = 0; h < houses.size(); h++) {
                if (houses.get(h).away) {
                    continue;
                }
                boolean silent = told == NONE && draw() % 10 < houses.get(h).spite;
                for (int d = 0; d < deeds.size() && !silent; d++) {
                    if (deeds.get(d).saw.contains(h)) {
                        word(h, d);
                    }
                }
            }
            askAnew();
            day = Math.min(9999, day + 1);
        }

        int book() {
            int bits = 0;
            for (int d = 0; d < deeds.size(); d++) {
                bits |= deeds.get(d).so ? 1 << d : 0;
            }
            return bits;
        }
    }

    /** Things of a text, by a pattern; a thing is {where, what}. */
    private static final class Things {
        private static final Pattern THING = Pattern.compile("[a-z]+|[0-9]+|[^ ]", Pattern.DOTALL);
        final List<String> things = new ArrayList<>();
        final List<Integer> begins = new ArrayList<>();
        final int length;
        int next = 0;

        Things(byte[] bytes) {
            String text = new String(bytes, StandardCharsets.ISO_8859_1);
            length = text.length();
            Matcher m = THING.matcher(text);
            while (m.find()) {
                things.add(m.group());
                begins.add(m.start());
            }
        }

        boolean over() {
            return next >= things.size();
        }

        String peek() {
            return over() ? "" : things.get(next);
        }

        Wrong wrong() {
            return new Wrong(over() ? length : begins.get(next));
        }

        void need(String thing) throws Wrong {
            if (!has(thing)) {
                throw wrong();
            }
        }

        boolean has(String thing) {
            if (!over() && peek().equals(thing)) {
                next++;
                return true;
            }
            return false;
        }

        boolean isNumber() {
            return peek().matches("[0-9]{1,3}");
        }

        int number(int least, int most) throws Wrong {
            if (!isNumber() || Integer.parseInt(peek()) < least || Integer.parseInt(peek()) > most) {
                throw wrong();
            }
            return Integer.parseInt(things.get(next++));
        }
    }

    private final List<Byte> tape = new ArrayList<>();
    private World world = new World();
    private World image;
    private final Deque<World> acts = new ArrayDeque<>();
    private int fault = NONE;

    // ---- texts ----

    int feed(int a, int b, int c, int d, int e) {
        if (tape.size() + 20 > 400) {
            return NONE;
        }
        for (int n : new int[] {a, b, c, d, e}) {
            for (byte one : java.nio.ByteBuffer.allocate(4).putInt(n).array()) {
                tape.add(one);
            }
        }
        return tape.size();
    }

    boolean end(int n) {
        if (n < 0 || n > tape.size()) {
            return false;
        }
        tape.subList(n, tape.size()).clear();
        return true;
    }

    private byte[] useUp() {
        byte[] all = new byte[tape.size()];
        for (int i = 0; i < all.length; i++) {
            all[i] = tape.get(i);
        }
        tape.clear();
        return all;
    }

    int street() {
        Things t = new Things(useUp());
        World w = world.copy();
        try {
            readStreet(t, w);
            fault = NONE;
        } catch (Wrong e) {
            fault = e.at;
            throw new IllegalArgumentException();
        }
        if (world.texts == 12) {
            throw new UnsupportedOperationException();
        }
        world = w;
        acts.clear();
        return ++world.texts;
    }

    private static void readStreet(Things t, World w) throws Wrong {
        int lines = 0;
        while (!(lines == 0 && t.over())) {
            if (lines == 14) {
                throw t.wrong();
            }
            lines++;
            switch (t.peek()) {
                case "house" -> readHouse(t, w);
                case "deed" -> readDeed(t, w);
                case "mists" -> {
                    t.next++;
                    w.mists = t.number(0, 9);
                }
                case "away" -> {
                    t.next++;
                    w.houses.get(t.number(0, w.houses.size() - 1)).away = true;
                }
                default -> throw t.wrong();
            }
            if (t.over()) {
                return;
            }
            t.need(";");
        }
    }

    private static void readHouse(Things t, World w) throws Wrong {
        if (w.houses.size() == 8) {
            throw t.wrong();
        }
        House h = new House();
        t.need("house");
        h.place = t.number(0, 23);
        t.need("sees");
        h.left = t.number(0, 23);
        t.need("to");
        h.right = t.number(h.left, 23);
        t.need("up");
        h.from = t.number(0, 23);
        t.need("for");
        h.hours = t.number(0, 24);
        if (t.has("spite")) {
            h.spite = t.number(0, 9);
        }
        w.houses.add(h);
    }

    private static void readDeed(Things t, World w) throws Wrong {
        if (w.deeds.size() == 10) {
            throw t.wrong();
        }
        Deed d = new Deed();
        t.need("deed");
        d.place = t.number(0, 23);
        t.need("at");
        d.hour = t.number(0, 23);
        if (t.has("hangs")) {
            d.hangs = t.number(0, w.deeds.size() - 1);
        }
        w.deeds.add(d);
    }

    int law() {
        Things t = new Things(useUp());
        List<LawLine> lines = new ArrayList<>();
        try {
            while (!(lines.isEmpty() && t.over())) {
                if (lines.size() == 12) {
                    throw t.wrong();
                }
                boolean see = t.has("see");
                if (!see) {
                    t.need("blind");
                }
                lines.add(new LawLine(see, t.has("if") ? cond(t, 0) : look -> true));
                if (t.over()) {
                    break;
                }
                t.need(";");
            }
            fault = NONE;
        } catch (Wrong e) {
            fault = e.at;
            throw new IllegalArgumentException();
        }
        world.law = lines;
        acts.clear();
        return lines.size();
    }

    private static Cond cond(Things t, int deep) throws Wrong {
        Cond left = all(t, deep);
        if (t.has("or")) {
            Cond right = cond(t, deep);
            return look -> left.holds(look) || right.holds(look);
        }
        return left;
    }

    private static Cond all(Things t, int deep) throws Wrong {
        Cond left = atom(t, deep);
        if (t.has("and")) {
            Cond right = all(t, deep);
            return look -> left.holds(look) && right.holds(look);
        }
        return left;
    }

    private static Cond atom(Things t, int deep) throws Wrong {
        if (deep == 6 && (t.peek().equals("not") || t.peek().equals("("))) {
            throw t.wrong();
        }
        if (t.has("not")) {
            Cond c = atom(t, deep + 1);
            return look -> !c.holds(look);
        }
        if (t.has("(")) {
            Cond c = cond(t, deep + 1);
            t.need(")");
            return c;
        }
        if (t.has("up")) {
            return Look::isUp;
        }
        if (t.has("away")) {
            return look -> look.house.away;
        }
        if (t.has("window")) {
            return Look::inWindow;
        }
        Value left = sum(t);
        boolean less = t.has("<");
        if (!less) {
            t.need(">");
        }
        Value right = sum(t);
        return less ? look -> left.of(look) < right.of(look) : look -> left.of(look) > right.of(look);
    }

    private static Value sum(Things t) throws Wrong {
        Value left = part(t);
        if (t.has("+")) {
            Value right = sum(t);
            return look -> left.of(look) + right.of(look);
        }
        return left;
    }

    private static Value part(Things t) throws Wrong {
        if (t.isNumber()) {
            int n = t.number(0, 999);
            return look -> n;
        }
        if (t.has("house")) {
            return Look::number;
        }
        if (t.has("place")) {
            return Look::place;
        }
        if (t.has("hour")) {
            return Look::hour;
        }
        if (t.has("apart")) {
            return Look::apart;
        }
        if (t.has("fog")) {
            return Look::fog;
        }
        t.need("day");
        return Look::day;
    }

    int fault() {
        return fault;
    }

    // ---- houses, deeds, acts ----

    private static int bits(Set<Integer> set) {
        int bits = 0;
        for (int i : set) {
            bits |= 1 << i;
        }
        return bits;
    }

    private House houseAt(int h) {
        if (h < 0 || h >= world.houses.size()) {
            throw new IndexOutOfBoundsException();
        }
        return world.houses.get(h);
    }

    private Deed deedAt(int d) {
        if (d < 0 || d >= world.deeds.size()) {
            throw new IndexOutOfBoundsException();
        }
        return world.deeds.get(d);
    }

    /** A place or an hour: there are 24 of both. */
    private static void within(int... numbers) {
        for (int n : numbers) {
            if (n < 0 || n > 23) {
                throw new IndexOutOfBoundsException();
            }
        }
    }

    private static void number(int n, int least, int most) {
        if (n < least || n > most) {
            throw new IllegalArgumentException();
        }
    }

    int house(int house, int what) {
        House h = houseAt(house);
        Set<Integer> owes = new TreeSet<>();
        Set<Integer> lacks = new TreeSet<>();
        for (int d = 0; d < world.deeds.size(); d++) {
            Deed deed = world.deeds.get(d);
            if (deed.so) {
                continue;
            }
            if (!deed.saw.contains(house)) {
                lacks.add(d);
            } else if (!deed.said.contains(house)) {
                owes.add(d);
            }
        }
        int share = 0;
        for (int hour = 0; hour < 24; hour++) {
            share += world.view(house, hour).size();
        }
        int[] all = {h.place, Math.max(0, h.left - h.mirrors), Math.min(23, h.right + h.mirrors), h.from, h.hours,
            h.spite, h.mirrors, h.away ? 1 : 0, bits(owes), bits(lacks), share * 100 / 576};
        if (what < 0 || what >= all.length) {
            throw new NoSuchElementException();
        }
        return all[what];
    }

    private boolean hangsOn(int d, int on) {
        int other = world.deeds.get(d).hangs;
        return other != NONE && (other == on || hangsOn(other, on));
    }

    int deed(int deed, int what) {
        Deed d = deedAt(deed);
        Set<Integer> hangs = new TreeSet<>();
        int chain = 0;
        for (int i = 0; i < world.deeds.size(); i++) {
            if (hangsOn(i, deed)) {
                hangs.add(i);
            }
            if (hangsOn(deed, i)) {
                chain++;
            }
        }
        int bribe = 0;
        for (int h = 0; h < world.houses.size(); h++) {
            bribe += d.said.contains(h) ? 0 : world.houses.get(h).spite;
        }
        int[] all = {d.place, d.hour, d.hangs, bits(d.saw), bits(d.said), d.so ? 1 : 0, bits(hangs), chain, bribe};
        if (what < 0 || what >= all.length) {
            throw new NoSuchElementException();
        }
        return all[what];
    }

    boolean sees(int house, int place, int hour) {
        houseAt(house);
        within(place, hour);
        return world.sees(house, place, hour);
    }

    private void act() {
        acts.push(world.copy());
        if (acts.size() > 12) {
            acts.removeLast();
        }
    }

    int done(int deed) {
        if (deedAt(deed).so) {
            throw new IllegalStateException();
        }
        act();
        Deed d = world.deeds.get(deed);
        world.doDeed(d);
        return bits(world.witnesses(d.place, d.hour));
    }

    boolean say(int house, int deed) {
        House h = houseAt(house);
        Deed d = deedAt(deed);
        if (h.away || !d.saw.contains(house) || d.said.contains(house)) {
            throw new IllegalStateException();
        }
        act();
        world.word(house, deed);
        world.askAnew();
        return world.deeds.get(deed).so;
    }

    boolean away(int house, boolean is) {
        boolean was = houseAt(house).away;
        act();
        world.houses.get(house).away = is;
        return was != is;
    }

    int mirror(int house) {
        if (houseAt(house).mirrors == 3) {
            throw new IllegalStateException();
        }
        act();
        return ++world.houses.get(house).mirrors;
    }

    int up(int house, int hour, int n) {
        int was = houseAt(house).hours;
        within(hour);
        number(n, 0, 24);
        act();
        world.houses.get(house).from = hour;
        world.houses.get(house).hours = n;
        return was;
    }

    int spite(int house, int n) {
        int was = houseAt(house).spite;
        number(n, 0, 9);
        act();
        world.houses.get(house).spite = n;
        return was;
    }

    int lodger(int house) {
        House h = houseAt(house);
        if (world.houses.size() == 8) {
            throw new UnsupportedOperationException();
        }
        act();
        world.houses.add(h.clone());
        return world.houses.size() - 1;
    }

    int days(int n) {
        number(n, 1, 60);
        act();
        int before = world.words.size();
        for (int i = 0; i < n; i++) {
            world.pass(NONE);
        }
        return world.words.size() - before;
    }

    // ---- sights ----

    int witnesses(int place, int hour) {
        within(place, hour);
        return bits(world.witnesses(place, hour));
    }

    int open(int hour, boolean dark) {
        within(hour);
        Set<Integer> places = new TreeSet<>();
        for (int p = 0; p < 24; p++) {
            int seen = world.witnesses(p, hour).size();
            if (dark ? seen == 0 : seen > 0 && seen == world.houses.size()) {
                places.add(p);
            }
        }
        return bits(places);
    }

    int best() {
        if (world.houses.isEmpty()) {
            return NONE;
        }
        int spot = 0;
        for (int i = 576; i-- > 0;) {
            if (world.witnesses(i % 24, i / 24).size() >= world.witnesses(spot % 100, spot / 100).size()) {
                spot = i / 24 * 100 + i % 24;
            }
        }
        return spot;
    }

    int wake(int place, int hour) {
        within(place, hour);
        World w = world.copy();
        for (House h : w.houses) {
            h.away = false;
            h.from = hour;
            h.hours = Math.max(1, h.hours);
        }
        Set<Integer> would = w.witnesses(place, hour);
        would.removeAll(world.witnesses(place, hour));
        return bits(would);
    }

    int mirrors(int place, int hour) {
        within(place, hour);
        return mirrorsFrom(world.copy(), 0, place, hour);
    }

    /** Tries all ways to put mirrors on the houses from h on; NONE if none helps. */
    private int mirrorsFrom(World w, int h, int place, int hour) {
        if (h == w.houses.size()) {
            return 0;
        }
        House house = w.houses.get(h);
        int had = house.mirrors;
        int fewest = NONE;
        for (int m = 3; m >= had; m--) {
            house.mirrors = m;
            if (w.sees(h, place, hour)) {
                fewest = m - had;
            }
        }
        house.mirrors = had;
        int rest = fewest == NONE ? NONE : mirrorsFrom(w, h + 1, place, hour);
        return rest == NONE ? NONE : rest + fewest;
    }

    int unseen(int place) {
        within(place);
        int longest = 0;
        for (int from = 0; from < 24; from++) {
            int n = 0;
            while (n < 24 && world.witnesses(place, (from + n) % 24).isEmpty()) {
                n++;
            }
            longest = Math.max(longest, n);
        }
        return longest;
    }

    /** By going over all steps until nothing gets better. */
    int thief(int from, int to, int hour) {
        within(from, to, hour);
        int[][] cost = new int[24][24];
        int[][] way = new int[24][24];
        for (int t = 0; t < 24; t++) {
            Arrays.fill(way[t], Integer.MAX_VALUE / 2);
            for (int p = 0; p < 24; p++) {
                cost[t][p] = world.witnesses(p, (hour + t) % 24).size();
            }
        }
        way[0][from] = cost[0][from];
        boolean better = true;
        while (better) {
            better = false;
            for (int t = 0; t < 24; t++) {
                for (int p = 0; p < 24; p++) {
                    int best = t > 0 ? way[t - 1][p] : Integer.MAX_VALUE / 2;
                    best = Math.min(best, p > 0 ? way[t][p - 1] : best);
                    best = Math.min(best, p < 23 ? way[t][p + 1] : best);
                    if (best + cost[t][p] < way[t][p]) {
                        way[t][p] = best + cost[t][p];
                        better = true;
                    }
                }
            }
        }
        int fewest = Integer.MAX_VALUE;
        for (int t = 0; t < 24; t++) {
            fewest = Math.min(fewest, way[t][to]);
        }
        return fewest;
    }

    int clear(int place, int hour) {
        within(place, hour);
        World w = world.copy();
        int greatest = NONE;
        for (w.fog = 0; w.fog <= 9; w.fog++) {
            if (!w.houses.isEmpty() && w.witnesses(place, hour).size() == w.houses.size()) {
                greatest = w.fog;
            }
        }
        return greatest;
    }

    // ---- deeds ahead ----

    int soonest(int deed, int fog) {
        deedAt(deed);
        number(fog, 0, 9);
        for (int n = 0; n <= 40; n++) {
            if ((ahead(n, fog) >> deed & 1) == 1) {
                return n;
            }
        }
        return NONE;
    }

    int ahead(int n, int fog) {
        number(n, 0, 40);
        number(fog, 0, 9);
        World w = world.copy();
        for (int i = 0; i < n; i++) {
            w.pass(fog);
        }
        return w.book();
    }

    int later(int fog) {
        number(fog, 0, 9);
        int latest = 0;
        for (int d = 0; d < world.deeds.size(); d++) {
            latest = Math.max(latest, soonest(d, fog));
        }
        return latest;
    }

    int holds() {
        int who = NONE;
        long most = -1;
        for (int i = 0; i < world.houses.size(); i++) {
            int h = i;
            long n = world.deeds.stream().filter(d -> !d.so && !d.said.contains(h)).count();
            if (n > most) {
                most = n;
                who = h;
            }
        }
        return who;
    }

    // ---- what is told ----

    private List<Set<Integer>> fitting() {
        byte[] rows = useUp();
        if (rows.length > 36 || rows.length % 3 != 0) {
            throw new IllegalArgumentException();
        }
        List<Set<Integer>> sets = new ArrayList<>();
        for (int bits = 0; bits < 1 << world.houses.size(); bits++) {
            Set<Integer> set = new HashSet<>();
            for (int h = 0; h < 8; h++) {
                if ((bits >> h & 1) == 1) {
                    set.add(h);
                }
            }
            sets.add(set);
        }
        for (int i = 0; i < rows.length; i += 3) {
            int from = rows[i] & 255;
            int to = rows[i + 1] & 255;
            int many = rows[i + 2] & 255;
            if (from > to || to >= world.houses.size()) {
                throw new IllegalArgumentException();
            }
            sets.removeIf(set -> set.stream().filter(h -> h >= from && h <= to).count() != many);
        }
        return sets;
    }

    int denied(boolean sure) {
        List<Set<Integer>> sets = fitting();
        if (!sure) {
            return sets.size();
        }
        Set<Integer> all = new TreeSet<>();
        for (int h = 0; h < world.houses.size(); h++) {
            int house = h;
            if (!sets.isEmpty() && sets.stream().allMatch(set -> set.contains(house))) {
                all.add(h);
            }
        }
        return bits(all);
    }

    int ask() {
        List<Set<Integer>> sets = fitting();
        if (sets.size() < 2) {
            return NONE;
        }
        int who = NONE;
        long least = Long.MAX_VALUE;
        for (int h = 0; h < world.houses.size(); h++) {
            int house = h;
            long in = sets.stream().filter(set -> set.contains(house)).count();
            if (Math.max(in, sets.size() - in) < least) {
                least = Math.max(in, sets.size() - in);
                who = h;
            }
        }
        return who;
    }

    // ---- alike, eyes, alone ----

    int twins() {
        List<List<Set<Integer>>> views = new ArrayList<>();
        for (int h = 0; h < world.houses.size(); h++) {
            List<Set<Integer>> day = new ArrayList<>();
            for (int hour = 0; hour < 24; hour++) {
                day.add(world.view(h, hour));
            }
            views.add(day);
        }
        int pairs = 0;
        for (int a = 0; a < views.size(); a++) {
            for (int b = 0; b < a; b++) {
                pairs += views.get(a).equals(views.get(b)) ? 1 : 0;
            }
        }
        return pairs;
    }

    int eyes(int hour) {
        within(hour);
        int n = world.houses.size();
        Set<Integer> all = new TreeSet<>();
        for (int h = 0; h < n; h++) {
            all.addAll(world.view(h, hour));
        }
        for (int size = 0; size <= n; size++) {
            for (int bits = 0; bits < 1 << n; bits++) {
                if (Integer.bitCount(bits) != size) {
                    continue;
                }
                Set<Integer> seen = new TreeSet<>();
                for (int h = 0; h < n; h++) {
                    if ((bits >> h & 1) == 1) {
                        seen.addAll(world.view(h, hour));
                    }
                }
                if (seen.equals(all)) {
                    return bits;
                }
            }
        }
        throw new AssertionError();
    }

    int alone(int hour, int house) {
        within(hour);
        if (house != NONE) {
            houseAt(house);
        }
        Set<Integer> places = new TreeSet<>();
        for (int p = 0; p < 24; p++) {
            Set<Integer> who = world.witnesses(p, hour);
            if (who.size() == 1 && (house == NONE || who.contains(house))) {
                places.add(p);
            }
        }
        return bits(places);
    }

    int book(boolean half) {
        int bits = 0;
        for (int d = 0; d < world.deeds.size(); d++) {
            Deed deed = world.deeds.get(d);
            if (half ? !deed.so && !deed.saw.isEmpty() : deed.so) {
                bits |= 1 << d;
            }
        }
        return bits;
    }

    // ---- trials, the log ----

    private World after(int n, int seed) {
        number(n, 0, 40);
        World w = world.copy();
        w.seed = seed;
        for (int i = 0; i < n; i++) {
            w.pass(NONE);
        }
        return w;
    }

    int trial(int n, boolean words) {
        World w = after(n, world.seed);
        return words ? w.words.size() - world.words.size() : w.book();
    }

    int span(int n, boolean most) {
        TreeSet<Integer> all = new TreeSet<>();
        for (int seed = 1; seed <= 6; seed++) {
            all.add(after(n, seed).words.size() - world.words.size());
        }
        return most ? all.last() : all.first();
    }

    private List<int[]> rows() {
        int n = world.words.size();
        return world.words.subList(Math.max(0, n - 60), n);
    }

    int led(int house, boolean day) {
        houseAt(house);
        int count = 0;
        int last = NONE;
        for (int[] row : rows()) {
            if (row[1] == house) {
                count++;
                last = row[0];
            }
        }
        return day ? last : count;
    }

    int log(int ago, int what) {
        if (what < 0 || what > 2) {
            throw new NoSuchElementException();
        }
        List<int[]> rows = rows();
        return ago < 0 || ago >= rows.size() ? NONE : rows.get(rows.size() - 1 - ago)[what];
    }

    int seed(int n) {
        int was = world.seed;
        world.seed = n;
        return was;
    }

    boolean undo() {
        if (acts.isEmpty()) {
            return false;
        }
        world = acts.pop();
        return true;
    }

    void image() {
        image = world.copy();
    }

    boolean back() {
        if (image == null) {
            return false;
        }
        world = image.copy();
        acts.clear();
        return true;
    }

    int count(int what) {
        int away = 0;
        int mirrors = 0;
        int spite = 0;
        for (int h = 0; h < world.houses.size(); h++) {
            away |= world.houses.get(h).away ? 1 << h : 0;
            mirrors += world.houses.get(h).mirrors;
            spite += world.houses.get(h).spite;
        }
        int[] all = {world.houses.size(), world.deeds.size(), world.texts, world.law == null ? NONE : world.law.size(),
            world.day, world.fog, world.mists, away, mirrors, spite, world.words.size(), rows().size(), acts.size()};
        return what < 0 || what >= all.length ? NONE : all[what];
    }
}
