import java.util.NoSuchElementException;

/** A street where nothing has happened unless all houses saw it and each has said so at the pump. */
public final class AllSawIt {
    public static final int NONE = -1;

    private static final int PLACES = 24;
    private static final int HOURS = 24;
    private static final int ALL_PLACES = (1 << PLACES) - 1;
    private static final int MOST_HOUSES = 8;
    private static final int MOST_DEEDS = 10;
    private static final int MOST_MIRRORS = 3;
    private static final int MOST_TEXTS = 12;
    private static final int MOST_BYTES = 400;
    private static final int MOST_DAYS = 60;
    private static final int MOST_AHEAD = 40;
    private static final int SPAN_SEEDS = 6;

    private final Tape tape;
    private final State state;
    // What would be, if: texts while they are read, trials, days ahead.
    private final State spare;
    private final State image;
    private final Law law;
    private final Law spareLaw;
    private final Law imageLaw;
    private final Acts acts;
    private final Sight sight;
    private boolean imageKept;
    private int fault;

    public AllSawIt() {
        tape = new Tape();
        state = new State();
        spare = new State();
        image = new State();
        law = new Law();
        spareLaw = new Law();
        imageLaw = new Law();
        acts = new Acts();
        sight = new Sight();
        imageKept = false;
        fault = NONE;
    }

    // ---- the tape and the texts ----

    public int feed(int a, int b, int c, int d, int e) {
        if (tape.length + 20 > MOST_BYTES) {
            return NONE;
        }
        tape.putNumber(a);
        tape.putNumber(b);
        tape.putNumber(c);
        tape.putNumber(d);
        tape.putNumber(e);
        return tape.length;
    }

    public boolean end(int n) {
        if (n < 0 || n > tape.length) {
            return false;
        }
        tape.length = n;
        return true;
    }

    public int street() throws IllegalArgumentException, UnsupportedOperationException {
        spare.copyFrom(state);
        boolean right = StreetText.read(tape, spare);
        endText(right);
        if (!right) {
            throw new IllegalArgumentException("the text of the street is wrong");
        }
        if (state.texts >= MOST_TEXTS) {
            throw new UnsupportedOperationException("there are 12 texts of the street");
        }
        state.copyFrom(spare);
        state.texts++;
        acts.forget();
        return state.texts;
    }

    public int law() throws IllegalArgumentException {
        boolean right = LawText.read(tape, spareLaw);
        endText(right);
        if (!right) {
            throw new IllegalArgumentException("the text of the law is wrong");
        }
        law.copyFrom(spareLaw);
        acts.forget();
        return law.lines;
    }

    public int fault() {
        return fault;
    }

    // Whatever is wrong is the thing at which the reader stands.
    private void endText(boolean right) {
        fault = right ? NONE : tape.begin;
        tape.length = 0;
    }

    // ---- houses and deeds ----

    public int house(int house, int what) throws IndexOutOfBoundsException, NoSuchElementException {
        needHouse(house);
        switch (what) {
            case 0:
            case 3:
            case 4:
            case 5:
            case 6:
                return state.ofHouse(house, what);
            case 1:
                return state.leftEnd(house);
            case 2:
                return state.rightEnd(house);
            case 7:
                return state.isAway(house) ? 1 : 0;
            case 8:
                return state.owed(house);
            case 9:
                return state.lacking(house);
            case 10:
                return 100 * Sight.sightsOf(state, law, house) / (PLACES * HOURS);
            default:
                throw new NoSuchElementException("no such thing of a house");
        }
    }

    public int deed(int deed, int what) throws IndexOutOfBoundsException, NoSuchElementException {
        needDeed(deed);
        switch (what) {
            case 0:
            case 1:
            case 2:
            case 3:
            case 4:
                return state.ofDeed(deed, what);
            case 5:
                return state.isSo(deed) ? 1 : 0;
            case 6:
                return state.hanging(deed);
            case 7:
                return state.chain(deed);
            case 8:
                return state.bribe(deed);
            default:
                throw new NoSuchElementException("no such thing of a deed");
        }
    }

    public boolean sees(int house, int place, int hour) throws IndexOutOfBoundsException {
        needHouse(house);
        needPlace(place);
        needHour(hour);
        return law.lets(state, house, place, hour);
    }

    // ---- acts ----

    public int done(int deed) throws IndexOutOfBoundsException, IllegalStateException {
        needDeed(deed);
        if (state.isSo(deed)) {
            throw new IllegalStateException("the deed is so");
        }
        acts.remember(state);
        int seen = Sight.witnessBits(state, law, state.ofDeed(deed, State.PLACE), state.ofDeed(deed, State.HOUR));
        state.addSeen(deed, seen);
        return seen;
    }

    public boolean say(int house, int deed) throws IndexOutOfBoundsException, IllegalStateException {
        needHouse(house);
        needDeed(deed);
        if (state.isAway(house) || !state.hasSeen(house, deed) || state.hasSaid(house, deed)) {
            throw new IllegalStateException("the house cannot say that now");
        }
        acts.remember(state);
        state.addWord(house, deed);
        state.askAnew();
        return state.isSo(deed);
    }

    public boolean away(int house, boolean is) throws IndexOutOfBoundsException {
        needHouse(house);
        // An act also when the house stays as it is: false tells that nothing changed, not that nothing was done.
        acts.remember(state);
        if (state.isAway(house) == is) {
            return false;
        }
        state.away ^= 1 << house;
        return true;
    }

    public int mirror(int house) throws IndexOutOfBoundsException, IllegalStateException {
        needHouse(house);
        int mirrors = state.ofHouse(house, State.MIRRORS);
        if (mirrors >= MOST_MIRRORS) {
            throw new IllegalStateException("the house has 3 mirrors");
        }
        acts.remember(state);
        state.setHouse(house, State.MIRRORS, mirrors + 1);
        return mirrors + 1;
    }

    public int up(int house, int hour, int n) throws IndexOutOfBoundsException, IllegalArgumentException {
        needHouse(house);
        needHour(hour);
        needNumber(n, 0, HOURS);
        acts.remember(state);
        int was = state.ofHouse(house, State.UP_FOR);
        state.setHouse(house, State.UP_FROM, hour);
        state.setHouse(house, State.UP_FOR, n);
        return was;
    }

    public int spite(int house, int n) throws IndexOutOfBoundsException, IllegalArgumentException {
        needHouse(house);
        needNumber(n, 0, 9);
        acts.remember(state);
        int was = state.ofHouse(house, State.SPITE);
        state.setHouse(house, State.SPITE, n);
        return was;
    }

    public int lodger(int house) throws IndexOutOfBoundsException, UnsupportedOperationException {
        needHouse(house);
        if (state.houses >= MOST_HOUSES) {
            throw new UnsupportedOperationException("there are 8 houses");
        }
        acts.remember(state);
        return state.addLodger(house);
    }

    public int days(int n) throws IllegalArgumentException {
        needNumber(n, 1, MOST_DAYS);
        acts.remember(state);
        int before = state.words;
        for (int i = 0; i < n; i++) {
            Days.pass(state, law);
        }
        return state.words - before;
    }

    // ---- windows and hours ----

    public int witnesses(int place, int hour) throws IndexOutOfBoundsException {
        needPlace(place);
        needHour(hour);
        return Sight.witnessBits(state, law, place, hour);
    }

    public int open(int hour, boolean dark) throws IndexOutOfBoundsException {
        needHour(hour);
        return dark ? Sight.darkBits(state, law, hour) : Sight.openBits(state, law, hour);
    }

    public int best() {
        return state.houses == 0 ? NONE : Sight.bestSpot(state, law);
    }

    public int wake(int place, int hour) throws IndexOutOfBoundsException {
        needPlace(place);
        needHour(hour);
        spare.copyFrom(state);
        spare.away = 0;
        for (int h = 0; h < spare.houses; h++) {
            spare.setHouse(h, State.UP_FOR, HOURS);
        }
        int would = Sight.witnessBits(spare, law, place, hour);
        return would & ~Sight.witnessBits(state, law, place, hour);
    }

    public int mirrors(int place, int hour) throws IndexOutOfBoundsException {
        needPlace(place);
        needHour(hour);
        spare.copyFrom(state);
        int all = 0;
        for (int h = 0; h < spare.houses; h++) {
            int more = moreMirrors(h, place, hour);
            if (more == NONE) {
                return NONE;
            }
            all += more;
        }
        return all;
    }

    private int moreMirrors(int house, int place, int hour) {
        int has = state.ofHouse(house, State.MIRRORS);
        for (int m = has; m <= MOST_MIRRORS; m++) {
            spare.setHouse(house, State.MIRRORS, m);
            if (law.lets(spare, house, place, hour)) {
                return m - has;
            }
        }
        return NONE;
    }

    public int unseen(int place) throws IndexOutOfBoundsException {
        needPlace(place);
        return Sight.longestUnseen(state, law, place);
    }

    public int thief(int from, int to, int hour) throws IndexOutOfBoundsException {
        needPlace(from);
        needPlace(to);
        needHour(hour);
        return sight.fewestSights(state, law, from, to, hour);
    }

    public int clear(int place, int hour) throws IndexOutOfBoundsException {
        needPlace(place);
        needHour(hour);
        if (state.houses == 0) {
            return NONE;
        }
        spare.copyFrom(state);
        for (int fog = 9; fog >= 0; fog--) {
            spare.fog = fog;
            if (Sight.witnessBits(spare, law, place, hour) == spare.allHouses()) {
                return fog;
            }
        }
        return NONE;
    }

    // ---- days ahead ----

    public int soonest(int deed, int fog) throws IndexOutOfBoundsException, IllegalArgumentException {
        needDeed(deed);
        needNumber(fog, 0, 9);
        spare.copyFrom(state);
        for (int n = 0; n <= MOST_AHEAD; n++) {
            if (spare.isSo(deed)) {
                return n;
            }
            Days.passTold(spare, law, fog);
        }
        return NONE;
    }

    public int ahead(int n, int fog) throws IllegalArgumentException {
        needNumber(n, 0, MOST_AHEAD);
        needNumber(fog, 0, 9);
        spare.copyFrom(state);
        for (int i = 0; i < n; i++) {
            Days.passTold(spare, law, fog);
        }
        return spare.so;
    }

    public int later(int fog) throws IllegalArgumentException {
        needNumber(fog, 0, 9);
        spare.copyFrom(state);
        int latest = 0;
        for (int n = 1; n <= MOST_AHEAD; n++) {
            int before = spare.so;
            Days.passTold(spare, law, fog);
            if (spare.so != before) {
                latest = n;
            }
        }
        return latest;
    }

    public int holds() {
        int most = NONE;
        int who = NONE;
        for (int h = 0; h < state.houses; h++) {
            int unsaid = state.unsaid(h);
            if (unsaid > most) {
                most = unsaid;
                who = h;
            }
        }
        return who;
    }

    // ---- what is told ----

    public int denied(boolean sure) throws IllegalArgumentException {
        boolean right = Denial.isTold(tape, state.houses);
        int answer = 0;
        if (right) {
            answer = sure ? Denial.inAll(tape, state.houses) : Denial.fitting(tape, state.houses, 0);
        }
        tape.length = 0;
        if (!right) {
            throw new IllegalArgumentException("the tape tells no rows of houses");
        }
        return answer;
    }

    public int ask() throws IllegalArgumentException {
        boolean right = Denial.isTold(tape, state.houses);
        int answer = right ? Denial.parting(tape, state.houses) : NONE;
        tape.length = 0;
        if (!right) {
            throw new IllegalArgumentException("the tape tells no rows of houses");
        }
        return answer;
    }

    // ---- who sees alike, and what ----

    public int twins() {
        return sight.pairsAlike(state, law);
    }

    public int eyes(int hour) throws IndexOutOfBoundsException {
        needHour(hour);
        return sight.fewestEyes(state, law, hour);
    }

    public int alone(int hour, int house) throws IndexOutOfBoundsException {
        needHour(hour);
        if (house == NONE) {
            return Sight.aloneBits(state, law, hour);
        }
        needHouse(house);
        return Sight.aloneBits(state, law, hour) & Sight.placeBits(state, law, house, hour);
    }

    public int book(boolean half) {
        return half ? state.halfBook() : state.so;
    }

    // ---- trials and the log ----

    public int trial(int n, boolean words) throws IllegalArgumentException {
        needNumber(n, 0, MOST_AHEAD);
        int said = tryDays(n, state.seed);
        return words ? said : spare.so;
    }

    public int span(int n, boolean most) throws IllegalArgumentException {
        needNumber(n, 0, MOST_AHEAD);
        int answer = tryDays(n, 1);
        for (int seed = 2; seed <= SPAN_SEEDS; seed++) {
            int said = tryDays(n, seed);
            answer = most ? Math.max(answer, said) : Math.min(answer, said);
        }
        return answer;
    }

    private int tryDays(int n, int seed) {
        spare.copyFrom(state);
        spare.seed = seed;
        for (int i = 0; i < n; i++) {
            Days.pass(spare, law);
        }
        return spare.words - state.words;
    }

    public int led(int house, boolean day) throws IndexOutOfBoundsException {
        needHouse(house);
        return day ? state.lastDayOf(house) : state.rowsOf(house);
    }

    public int log(int ago, int what) throws NoSuchElementException {
        switch (what) {
            case 0:
                return state.logDay(ago);
            case 1:
                return state.logHouse(ago);
            case 2:
                return state.logDeed(ago);
            default:
                throw new NoSuchElementException("no such thing of the log");
        }
    }

    public int seed(int n) {
        int was = state.seed;
        state.seed = n;
        return was;
    }

    // ---- undoing and the image ----

    public boolean undo() {
        return acts.takeBack(state);
    }

    public void image() {
        image.copyFrom(state);
        imageLaw.copyFrom(law);
        imageKept = true;
    }

    public boolean back() {
        if (!imageKept) {
            return false;
        }
        state.copyFrom(image);
        law.copyFrom(imageLaw);
        acts.forget();
        return true;
    }

    public int count(int what) {
        switch (what) {
            case 0:
                return state.houses;
            case 1:
                return state.deeds;
            case 2:
                return state.texts;
            case 3:
                return law.lines;
            case 4:
                return state.day;
            case 5:
                return state.fog;
            case 6:
                return state.mists;
            case 7:
                return state.away;
            case 8:
                return state.total(State.MIRRORS);
            case 9:
                return state.total(State.SPITE);
            case 10:
                return state.words;
            case 11:
                return state.logSize();
            case 12:
                return acts.kept;
            default:
                return NONE;
        }
    }

    // ---- what a call needs ----

    private void needHouse(int house) {
        if (house < 0 || house >= state.houses) {
            throw new IndexOutOfBoundsException("there is no such house");
        }
    }

    private void needDeed(int deed) {
        if (deed < 0 || deed >= state.deeds) {
            throw new IndexOutOfBoundsException("there is no such deed");
        }
    }

    private static void needPlace(int place) {
        if (place < 0 || place >= PLACES) {
            throw new IndexOutOfBoundsException("there is no such place");
        }
    }

    private static void needHour(int hour) {
        if (hour < 0 || hour >= HOURS) {
            throw new IndexOutOfBoundsException("there is no such hour");
        }
    }

    private static void needNumber(int n, int least, int most) {
        if (n < least || n > most) {
            throw new IllegalArgumentException("the number is none");
        }
    }

    /** The bytes that were fed, and a reader that stands at one thing of them at a time. */
    private static final class Tape {
        private static final int END = 0;
        private static final int WORD = 1;
        private static final int NUMBER = 2;
        private static final int SIGN = 3;

        private final byte[] bytes;
        private int length;
        // The thing at which the reader stands: its kind, where it begins, and what comes behind it.
        private int kind;
        private int begin;
        private int behind;
        private int number;

        Tape() {
            bytes = new byte[MOST_BYTES];
            length = 0;
            kind = END;
            begin = 0;
            behind = 0;
            number = 0;
        }

        void putNumber(int n) {
            for (int shift = 24; shift >= 0; shift -= 8) {
                if (length >= 0 && length < bytes.length) {
                    bytes[length] = (byte) (n >> shift);
                    length++;
                }
            }
        }

        int byteAt(int at) {
            return at >= 0 && at < length && at < bytes.length ? bytes[at] & 255 : NONE;
        }

        void rewind() {
            behind = 0;
            step();
        }

        /** Goes on to the next thing. */
        void step() {
            begin = behind;
            while (begin < length && byteAt(begin) == ' ') {
                begin++;
            }
            behind = begin;
            number = 0;
            int first = byteAt(begin);
            if (first == NONE) {
                kind = END;
            } else if (isDigit(first)) {
                kind = NUMBER;
                while (behind < length && isDigit(byteAt(behind))) {
                    // Beyond three digits no value counts; the bound keeps it from going round.
                    number = Math.min(number * 10 + byteAt(behind) - '0', 9999);
                    behind++;
                }
            } else if (isLetter(first)) {
                kind = WORD;
                while (behind < length && isLetter(byteAt(behind))) {
                    behind++;
                }
            } else {
                kind = SIGN;
                behind++;
            }
        }

        private static boolean isDigit(int b) {
            return b >= '0' && b <= '9';
        }

        private static boolean isLetter(int b) {
            return b >= 'a' && b <= 'z';
        }

        boolean isEnd() {
            return kind == END;
        }

        boolean isWord(String word) {
            if (kind != WORD || behind - begin != word.length()) {
                return false;
            }
            for (int i = 0; i < word.length(); i++) {
                int at = begin + i;
                if (at < 0 || at >= bytes.length || bytes[at] != word.charAt(i)) {
                    return false;
                }
            }
            return true;
        }

        boolean isSign(char sign) {
            return kind == SIGN && byteAt(begin) == sign;
        }

        boolean isNumber(int least, int most) {
            return kind == NUMBER && behind - begin <= 3 && number >= least && number <= most;
        }

        boolean takeWord(String word) {
            if (!isWord(word)) {
                return false;
            }
            step();
            return true;
        }

        boolean takeSign(char sign) {
            if (!isSign(sign)) {
                return false;
            }
            step();
            return true;
        }
    }

    /** Reads a text of the street; where it is wrong, the reader is left at what is wrong. */
    private static final class StreetText {
        private static final int MOST_LINES = 14;

        static boolean read(Tape text, State s) {
            text.rewind();
            if (text.isEnd()) {
                return true;
            }
            for (int line = 0; line < MOST_LINES; line++) {
                if (!readLine(text, s)) {
                    return false;
                }
                if (text.isEnd()) {
                    return true;
                }
                if (!text.takeSign(';')) {
                    return false;
                }
            }
            return false;
        }

        private static boolean readLine(Tape text, State s) {
            if (text.isWord("house")) {
                return s.houses < MOST_HOUSES && readHouse(text, s);
            }
            if (text.isWord("deed")) {
                return s.deeds < MOST_DEEDS && readDeed(text, s);
            }
            if (text.takeWord("mists")) {
                return readMists(text, s);
            }
            return text.takeWord("away") && readAway(text, s);
        }

        private static boolean readHouse(Tape text, State s) {
            int house = s.houses;
            s.setHouse(house, State.SPITE, 0);
            s.setHouse(house, State.MIRRORS, 0);
            boolean right = houseNumber(text, s, "house", State.PLACE, 0, PLACES - 1)
                    && houseNumber(text, s, "sees", State.LEFT, 0, PLACES - 1)
                    && houseNumber(text, s, "to", State.RIGHT, s.ofHouse(house, State.LEFT), PLACES - 1)
                    && houseNumber(text, s, "up", State.UP_FROM, 0, HOURS - 1)
                    && houseNumber(text, s, "for", State.UP_FOR, 0, HOURS);
            if (right && text.isWord("spite")) {
                right = houseNumber(text, s, "spite", State.SPITE, 0, 9);
            }
            s.houses++;
            return right;
        }

        private static boolean houseNumber(Tape text, State s, String word, int what, int least, int most) {
            if (!text.takeWord(word) || !text.isNumber(least, most)) {
                return false;
            }
            s.setHouse(s.houses, what, text.number);
            text.step();
            return true;
        }

        private static boolean readDeed(Tape text, State s) {
            s.setDeed(s.deeds, State.HANGS, NONE);
            s.setDeed(s.deeds, State.SAW, 0);
            s.setDeed(s.deeds, State.SAID, 0);
            boolean right = deedNumber(text, s, "deed", State.PLACE, PLACES - 1)
                    && deedNumber(text, s, "at", State.HOUR, HOURS - 1);
            if (right && text.isWord("hangs")) {
                right = deedNumber(text, s, "hangs", State.HANGS, s.deeds - 1);
            }
            s.deeds++;
            return right;
        }

        private static boolean deedNumber(Tape text, State s, String word, int what, int most) {
            if (!text.takeWord(word) || !text.isNumber(0, most)) {
                return false;
            }
            s.setDeed(s.deeds, what, text.number);
            text.step();
            return true;
        }

        private static boolean readMists(Tape text, State s) {
            if (!text.isNumber(0, 9)) {
                return false;
            }
            s.mists = text.number;
            text.step();
            return true;
        }

        private static boolean readAway(Tape text, State s) {
            if (!text.isNumber(0, s.houses - 1)) {
                return false;
            }
            s.away |= 1 << text.number;
            text.step();
            return true;
        }
    }

    /** Reads a text of the law; where it is wrong, the reader is left at what is wrong. */
    private static final class LawText {
        private static final int MOST_LINES = 12;
        private static final int MOST_DEEP = 6;

        static boolean read(Tape text, Law law) {
            law.empty();
            text.rewind();
            if (text.isEnd()) {
                return true;
            }
            for (int line = 0; line < MOST_LINES; line++) {
                boolean see = text.isWord("see");
                if (!see && !text.isWord("blind")) {
                    return false;
                }
                text.step();
                if (!text.takeWord("if")) {
                    law.put(Law.ALWAYS);
                } else if (!readCondition(text, law, 0)) {
                    return false;
                }
                law.endLine(see);
                if (text.isEnd()) {
                    return true;
                }
                if (!text.takeSign(';')) {
                    return false;
                }
            }
            return false;
        }

        // and binds closer than or: an or waits until all that and joins behind it is put.
        private static boolean readCondition(Tape text, Law law, int deep) {
            boolean and = false;
            boolean or = false;
            for (int n = 0; n < MOST_BYTES; n++) {
                if (!readAtom(text, law, deep)) {
                    return false;
                }
                if (and) {
                    law.put(Law.AND);
                }
                and = text.takeWord("and");
                if (!and) {
                    if (or) {
                        law.put(Law.OR);
                    }
                    or = text.takeWord("or");
                }
                if (!and && !or) {
                    return true;
                }
            }
            return false;
        }

        private static boolean readAtom(Tape text, Law law, int deep) {
            boolean not = text.isWord("not");
            if (not || text.isSign('(')) {
                if (deep >= MOST_DEEP) {
                    return false;
                }
                text.step();
                if (!not) {
                    return readCondition(text, law, deep + 1) && text.takeSign(')');
                }
                boolean right = readAtom(text, law, deep + 1);
                law.put(Law.NOT);
                return right;
            }
            int code = factCode(text);
            if (code == NONE) {
                return readComparison(text, law);
            }
            law.put(code);
            text.step();
            return true;
        }

        private static int factCode(Tape text) {
            if (text.isWord("up")) {
                return Law.UP;
            }
            if (text.isWord("away")) {
                return Law.AWAY;
            }
            return text.isWord("window") ? Law.WINDOW : NONE;
        }

        private static boolean readComparison(Tape text, Law law) {
            if (!readSum(text, law)) {
                return false;
            }
            boolean less = text.isSign('<');
            if (!less && !text.isSign('>')) {
                return false;
            }
            text.step();
            law.put(Law.LEFT_SUM);
            if (!readSum(text, law)) {
                return false;
            }
            law.put(less ? Law.LESS : Law.MORE);
            return true;
        }

        private static boolean readSum(Tape text, Law law) {
            for (int n = 0; n < MOST_BYTES; n++) {
                int code = partCode(text);
                if (code == NONE) {
                    return false;
                }
                law.put(code);
                text.step();
                if (!text.isSign('+')) {
                    return true;
                }
                text.step();
            }
            return false;
        }

        private static int partCode(Tape text) {
            if (text.isNumber(0, 999)) {
                return Law.NUMBER + text.number;
            }
            if (text.isWord("house")) {
                return Law.HOUSE;
            }
            if (text.isWord("place")) {
                return Law.PLACE;
            }
            if (text.isWord("hour")) {
                return Law.HOUR;
            }
            if (text.isWord("apart")) {
                return Law.APART;
            }
            if (text.isWord("fog")) {
                return Law.FOG;
            }
            return text.isWord("day") ? Law.DAY : NONE;
        }
    }

    /**
     * The law as a row of codes, each behind what it is about: facts, sums and comparisons leave a truth,
     * and, or, not take them up, and a line ends with the one that is left.
     */
    private static final class Law {
        private static final int UP = 0;
        private static final int AWAY = 1;
        private static final int WINDOW = 2;
        private static final int ALWAYS = 3;
        private static final int NOT = 4;
        private static final int AND = 5;
        private static final int OR = 6;
        private static final int LEFT_SUM = 7;
        private static final int LESS = 8;
        private static final int MORE = 9;
        private static final int SEE = 10;
        private static final int BLIND = 11;
        private static final int HOUSE = 12;
        private static final int PLACE = 13;
        private static final int HOUR = 14;
        private static final int APART = 15;
        private static final int FOG = 16;
        private static final int DAY = 17;
        private static final int NUMBER = 100;

        private final int[] codes;
        private int size;
        private int lines;
        // What is known of the house, the place and the hour that are looked at.
        private boolean isUp;
        private boolean isAway;
        private boolean inWindow;
        private int apart;
        // Truths as bits, the latest lowest: at most two wait in each of 7 depths.
        private int truths;
        private int sum;
        private int leftSum;

        Law() {
            // A text always has more bytes than codes.
            codes = new int[MOST_BYTES];
            size = 0;
            lines = NONE;
            isUp = false;
            isAway = false;
            inWindow = false;
            apart = 0;
            truths = 0;
            sum = 0;
            leftSum = 0;
        }

        void copyFrom(Law other) {
            size = other.size;
            lines = other.lines;
            for (int i = 0; i < size && i < codes.length && i < other.codes.length; i++) {
                codes[i] = other.codes[i];
            }
        }

        void empty() {
            size = 0;
            lines = 0;
        }

        void put(int code) {
            if (size >= 0 && size < codes.length) {
                codes[size] = code;
                size++;
            }
        }

        void endLine(boolean see) {
            put(see ? SEE : BLIND);
            lines++;
        }

        /** SEES. */
        boolean lets(State s, int house, int place, int hour) {
            isUp = s.isUp(house, hour);
            isAway = s.isAway(house);
            inWindow = s.inWindow(house, place);
            apart = s.apart(house, place);
            if (lines == NONE) {
                return isUp && inWindow && !isAway && apart <= 12 - s.fog;
            }
            boolean seen = false;
            truths = 0;
            sum = 0;
            for (int i = 0; i < size && i < codes.length; i++) {
                int code = codes[i];
                if (code >= HOUSE) {
                    sum += valueOf(code, s, house, place, hour);
                } else if (code < SEE) {
                    weigh(code);
                } else {
                    boolean held = (truths & 1) == 1;
                    truths = 0;
                    if (held && code == BLIND) {
                        return false;
                    }
                    seen = seen || held;
                }
            }
            return seen;
        }

        private int valueOf(int code, State s, int house, int place, int hour) {
            switch (code) {
                case HOUSE:
                    return house;
                case PLACE:
                    return place;
                case HOUR:
                    return hour;
                case APART:
                    return apart;
                case FOG:
                    return s.fog;
                case DAY:
                    return s.day;
                default:
                    return code - NUMBER;
            }
        }

        private void weigh(int code) {
            switch (code) {
                case UP:
                    push(isUp);
                    break;
                case AWAY:
                    push(isAway);
                    break;
                case WINDOW:
                    push(inWindow);
                    break;
                case NOT:
                    truths ^= 1;
                    break;
                case AND:
                    putForTwo((truths & 3) == 3);
                    break;
                case OR:
                    putForTwo((truths & 3) != 0);
                    break;
                case LEFT_SUM:
                    leftSum = sum;
                    sum = 0;
                    break;
                case LESS:
                    push(leftSum < sum);
                    sum = 0;
                    break;
                case MORE:
                    push(leftSum > sum);
                    sum = 0;
                    break;
                default:
                    push(true);
                    break;
            }
        }

        private void push(boolean truth) {
            truths = truths << 1 | (truth ? 1 : 0);
        }

        private void putForTwo(boolean truth) {
            truths = truths >>> 2 << 1 | (truth ? 1 : 0);
        }
    }

    /** The street as it is at one time, but for its law. */
    private static final class State {
        // What stands in the row of a house, and in that of a deed, as house() and deed() number it.
        private static final int PLACE = 0;
        private static final int LEFT = 1;
        private static final int RIGHT = 2;
        private static final int UP_FROM = 3;
        private static final int UP_FOR = 4;
        private static final int SPITE = 5;
        private static final int MIRRORS = 6;
        private static final int HOUSE_ROW = 7;
        private static final int HOUR = 1;
        private static final int HANGS = 2;
        private static final int SAW = 3;
        private static final int SAID = 4;
        private static final int DEED_ROW = 5;
        private static final int LOG_ROWS = 60;
        private static final int LAST_DAY = 9999;

        private final int[] houseRows;
        private final int[] deedRows;
        // A word is one number: its day, house and deed.
        private final int[] logRows;
        private int houses;
        private int deeds;
        private int texts;
        private int away;
        private int so;
        private int fog;
        private int mists;
        private int day;
        private int seed;
        private int words;

        State() {
            houseRows = new int[MOST_HOUSES * HOUSE_ROW];
            deedRows = new int[MOST_DEEDS * DEED_ROW];
            logRows = new int[LOG_ROWS];
            houses = 0;
            deeds = 0;
            texts = 0;
            away = 0;
            so = 0;
            fog = 0;
            mists = 0;
            day = 0;
            seed = 1;
            words = 0;
        }

        void copyFrom(State other) {
            System.arraycopy(other.houseRows, 0, houseRows, 0, Math.min(houseRows.length, other.houseRows.length));
            System.arraycopy(other.deedRows, 0, deedRows, 0, Math.min(deedRows.length, other.deedRows.length));
            System.arraycopy(other.logRows, 0, logRows, 0, Math.min(logRows.length, other.logRows.length));
            houses = other.houses;
            deeds = other.deeds;
            texts = other.texts;
            away = other.away;
            so = other.so;
            fog = other.fog;
            mists = other.mists;
            day = other.day;
            seed = other.seed;
            words = other.words;
        }

        // -- houses --

        int ofHouse(int house, int what) {
            int at = house * HOUSE_ROW + what;
            return at >= 0 && at < houseRows.length ? houseRows[at] : 0;
        }

        void setHouse(int house, int what, int n) {
            int at = house * HOUSE_ROW + what;
            if (at >= 0 && at < houseRows.length) {
                houseRows[at] = n;
            }
        }

        int allHouses() {
            return (1 << houses) - 1;
        }

        int total(int what) {
            int sum = 0;
            for (int h = 0; h < houses; h++) {
                sum += ofHouse(h, what);
            }
            return sum;
        }

        int leftEnd(int house) {
            return Math.max(0, ofHouse(house, LEFT) - ofHouse(house, MIRRORS));
        }

        int rightEnd(int house) {
            return Math.min(PLACES - 1, ofHouse(house, RIGHT) + ofHouse(house, MIRRORS));
        }

        boolean inWindow(int house, int place) {
            int wider = ofHouse(house, MIRRORS);
            return place >= ofHouse(house, LEFT) - wider && place <= ofHouse(house, RIGHT) + wider;
        }

        boolean isUp(int house, int hour) {
            return Math.floorMod(hour - ofHouse(house, UP_FROM), HOURS) < ofHouse(house, UP_FOR);
        }

        boolean isAway(int house) {
            return (away >> house & 1) == 1;
        }

        int apart(int house, int place) {
            return Math.abs(place - ofHouse(house, PLACE));
        }

        int addLodger(int house) {
            int lodger = houses;
            for (int what = 0; what < HOUSE_ROW; what++) {
                setHouse(lodger, what, ofHouse(house, what));
            }
            if (isAway(house)) {
                away |= 1 << lodger;
            }
            houses++;
            return lodger;
        }

        // -- deeds --

        int ofDeed(int deed, int what) {
            int at = deed * DEED_ROW + what;
            return at >= 0 && at < deedRows.length ? deedRows[at] : 0;
        }

        void setDeed(int deed, int what, int n) {
            int at = deed * DEED_ROW + what;
            if (at >= 0 && at < deedRows.length) {
                deedRows[at] = n;
            }
        }

        boolean isSo(int deed) {
            return (so >> deed & 1) == 1;
        }

        boolean hasSeen(int house, int deed) {
            return (ofDeed(deed, SAW) >> house & 1) == 1;
        }

        boolean hasSaid(int house, int deed) {
            return (ofDeed(deed, SAID) >> house & 1) == 1;
        }

        void addSeen(int deed, int bits) {
            setDeed(deed, SAW, ofDeed(deed, SAW) | bits);
        }

        /** Whether it hangs on none, or on one that is SO. */
        boolean isFree(int deed) {
            int other = ofDeed(deed, HANGS);
            return other == NONE || isSo(other);
        }

        void askAnew() {
            for (int d = 0; d < deeds; d++) {
                boolean all = houses > 0 && (ofDeed(d, SAID) & allHouses()) == allHouses();
                if (all && isFree(d)) {
                    so |= 1 << d;
                }
            }
        }

        int hanging(int deed) {
            int bits = 0;
            // A deed hangs on one told ahead of it: one way along the row finds all.
            for (int d = deed + 1; d < deeds; d++) {
                int other = ofDeed(d, HANGS);
                if (other == deed || other != NONE && (bits >> other & 1) == 1) {
                    bits |= 1 << d;
                }
            }
            return bits;
        }

        int chain(int deed) {
            int count = 0;
            int other = ofDeed(deed, HANGS);
            for (int n = 0; n < MOST_DEEDS && other != NONE; n++) {
                count++;
                other = ofDeed(other, HANGS);
            }
            return count;
        }

        int bribe(int deed) {
            int sum = 0;
            for (int h = 0; h < houses; h++) {
                if (!hasSaid(h, deed)) {
                    sum += ofHouse(h, SPITE);
                }
            }
            return sum;
        }

        int owed(int house) {
            int bits = 0;
            for (int d = 0; d < deeds; d++) {
                if (!isSo(d) && hasSeen(house, d) && !hasSaid(house, d)) {
                    bits |= 1 << d;
                }
            }
            return bits;
        }

        int lacking(int house) {
            int bits = 0;
            for (int d = 0; d < deeds; d++) {
                if (!isSo(d) && !hasSeen(house, d)) {
                    bits |= 1 << d;
                }
            }
            return bits;
        }

        /** How many deeds that are not SO the house has not SAID. */
        int unsaid(int house) {
            int count = 0;
            for (int d = 0; d < deeds; d++) {
                if (!isSo(d) && !hasSaid(house, d)) {
                    count++;
                }
            }
            return count;
        }

        int halfBook() {
            int bits = 0;
            for (int d = 0; d < deeds; d++) {
                if (!isSo(d) && ofDeed(d, SAW) != 0) {
                    bits |= 1 << d;
                }
            }
            return bits;
        }

        // -- draws and words --

        int draw() {
            seed = 1103515245 * seed + 12345;
            return seed >>> 16 & 32767;
        }

        void addWord(int house, int deed) {
            setDeed(deed, SAID, ofDeed(deed, SAID) | 1 << house);
            int at = words % LOG_ROWS;
            if (at >= 0 && at < logRows.length) {
                logRows[at] = (day * MOST_HOUSES + house) * MOST_DEEDS + deed;
            }
            words++;
        }

        void sayAll(int house) {
            for (int d = 0; d < deeds; d++) {
                if (hasSeen(house, d) && !hasSaid(house, d)) {
                    addWord(house, d);
                }
            }
        }

        void endDay() {
            askAnew();
            day = Math.min(day + 1, LAST_DAY);
        }

        // -- the log --

        int logSize() {
            return Math.min(words, LOG_ROWS);
        }

        private int logRow(int ago) {
            if (ago < 0 || ago >= logSize()) {
                return NONE;
            }
            int at = (words - 1 - ago) % LOG_ROWS;
            return at >= 0 && at < logRows.length ? logRows[at] : NONE;
        }

        int logDay(int ago) {
            int row = logRow(ago);
            return row == NONE ? NONE : row / (MOST_HOUSES * MOST_DEEDS);
        }

        int logHouse(int ago) {
            int row = logRow(ago);
            return row == NONE ? NONE : row / MOST_DEEDS % MOST_HOUSES;
        }

        int logDeed(int ago) {
            int row = logRow(ago);
            return row == NONE ? NONE : row % MOST_DEEDS;
        }

        int rowsOf(int house) {
            int count = 0;
            for (int ago = 0; ago < logSize(); ago++) {
                if (logHouse(ago) == house) {
                    count++;
                }
            }
            return count;
        }

        int lastDayOf(int house) {
            for (int ago = 0; ago < logSize(); ago++) {
                if (logHouse(ago) == house) {
                    return logDay(ago);
                }
            }
            return NONE;
        }
    }

    /** How a day goes by. */
    private static final class Days {
        /** A DAY with draws. */
        static void pass(State s, Law law) {
            s.fog = Math.min(s.draw() % 10, s.mists);
            doFreeDeeds(s, law);
            for (int h = 0; h < s.houses; h++) {
                if (!s.isAway(h) && s.draw() % 10 >= s.ofHouse(h, State.SPITE)) {
                    s.sayAll(h);
                }
            }
            s.endDay();
        }

        /** A DAY of a told fog, without draws, nobody holding the tongue. */
        static void passTold(State s, Law law, int fog) {
            s.fog = fog;
            doFreeDeeds(s, law);
            for (int h = 0; h < s.houses; h++) {
                if (!s.isAway(h)) {
                    s.sayAll(h);
                }
            }
            s.endDay();
        }

        private static void doFreeDeeds(State s, Law law) {
            for (int d = 0; d < s.deeds; d++) {
                if (!s.isSo(d) && s.isFree(d)) {
                    showDeed(s, law, d);
                }
            }
        }

        // Those who saw it stay so, and need not look again.
        private static void showDeed(State s, Law law, int deed) {
            int place = s.ofDeed(deed, State.PLACE);
            int hour = s.ofDeed(deed, State.HOUR);
            for (int h = 0; h < s.houses; h++) {
                if (!s.hasSeen(h, deed) && law.lets(s, h, place, hour)) {
                    s.addSeen(deed, 1 << h);
                }
            }
        }
    }

    /** What is asked of windows and hours. */
    private static final class Sight {
        private static final int FAR = 1000000;

        // Of the thief, by places: the fewest sights up to there, and how many see it there in this hour.
        private final int[] ways;
        private final int[] watched;
        // By houses: the places that it sees.
        private final int[] views;

        Sight() {
            ways = new int[PLACES];
            watched = new int[PLACES];
            views = new int[MOST_HOUSES];
        }

        static int witnessBits(State s, Law law, int place, int hour) {
            int bits = 0;
            for (int h = 0; h < s.houses; h++) {
                if (law.lets(s, h, place, hour)) {
                    bits |= 1 << h;
                }
            }
            return bits;
        }

        static int placeBits(State s, Law law, int house, int hour) {
            int bits = 0;
            for (int p = 0; p < PLACES; p++) {
                if (law.lets(s, house, p, hour)) {
                    bits |= 1 << p;
                }
            }
            return bits;
        }

        static int openBits(State s, Law law, int hour) {
            int bits = s.houses == 0 ? 0 : ALL_PLACES;
            for (int h = 0; h < s.houses; h++) {
                bits &= placeBits(s, law, h, hour);
            }
            return bits;
        }

        static int darkBits(State s, Law law, int hour) {
            int bits = ALL_PLACES;
            for (int h = 0; h < s.houses; h++) {
                bits &= ~placeBits(s, law, h, hour);
            }
            return bits;
        }

        static int aloneBits(State s, Law law, int hour) {
            int once = 0;
            int more = 0;
            for (int h = 0; h < s.houses; h++) {
                int bits = placeBits(s, law, h, hour);
                more |= once & bits;
                once |= bits;
            }
            return once & ~more;
        }

        static int sightsOf(State s, Law law, int house) {
            int count = 0;
            for (int hour = 0; hour < HOURS; hour++) {
                count += Integer.bitCount(placeBits(s, law, house, hour));
            }
            return count;
        }

        static int bestSpot(State s, Law law) {
            int most = NONE;
            int spot = NONE;
            for (int hour = 0; hour < HOURS; hour++) {
                for (int p = 0; p < PLACES; p++) {
                    int seen = Integer.bitCount(witnessBits(s, law, p, hour));
                    if (seen > most) {
                        most = seen;
                        spot = 100 * hour + p;
                    }
                }
            }
            return spot;
        }

        static int longestUnseen(State s, Law law, int place) {
            int longest = 0;
            int row = 0;
            // Twice round, so that a row over midnight is found whole.
            for (int i = 0; i < 2 * HOURS; i++) {
                row = witnessBits(s, law, place, i % HOURS) == 0 ? row + 1 : 0;
                longest = Math.max(longest, row);
            }
            return Math.min(longest, HOURS);
        }

        /** Fills the views of all houses in an hour, and tells what they see together. */
        private int lookOut(State s, Law law, int hour) {
            int all = 0;
            for (int h = 0; h < s.houses && h < views.length; h++) {
                views[h] = placeBits(s, law, h, hour);
                all |= views[h];
            }
            return all;
        }

        int pairsAlike(State s, Law law) {
            int pairs = s.houses * (s.houses - 1) / 2;
            long parted = 0;
            for (int hour = 0; hour < HOURS; hour++) {
                lookOut(s, law, hour);
                parted |= pairsParted(s.houses);
            }
            return pairs - Long.bitCount(parted);
        }

        // A pair is the bit of 8 times the one and the other.
        private long pairsParted(int houses) {
            long parted = 0;
            for (int a = 0; a < houses && a < views.length; a++) {
                for (int b = 0; b < a; b++) {
                    if (views[a] != views[b]) {
                        parted |= 1L << (MOST_HOUSES * a + b);
                    }
                }
            }
            return parted;
        }

        int fewestEyes(State s, Law law, int hour) {
            int all = lookOut(s, law, hour);
            int best = s.allHouses();
            // From the least set on: a later one must be smaller to be better.
            for (int set = 0; set <= s.allHouses(); set++) {
                if (Integer.bitCount(set) < Integer.bitCount(best) && viewOf(set) == all) {
                    best = set;
                }
            }
            return best;
        }

        private int viewOf(int set) {
            int bits = 0;
            for (int h = 0; h < views.length; h++) {
                if ((set >> h & 1) == 1) {
                    bits |= views[h];
                }
            }
            return bits;
        }

        int fewestSights(State s, Law law, int from, int to, int hour) {
            for (int p = 0; p < ways.length; p++) {
                ways[p] = p == from ? 0 : FAR;
            }
            int fewest = FAR;
            for (int gone = 0; gone < HOURS; gone++) {
                goAlong(s, law, (hour + gone) % HOURS);
                if (to >= 0 && to < ways.length) {
                    fewest = Math.min(fewest, ways[to]);
                }
            }
            return fewest;
        }

        // Sights are never below 0, so within an hour nobody gains by turning round.
        private void goAlong(State s, Law law, int hour) {
            int before = FAR;
            for (int p = 0; p < ways.length && p < watched.length; p++) {
                watched[p] = Integer.bitCount(witnessBits(s, law, p, hour));
                ways[p] = Math.min(ways[p], before) + watched[p];
                before = ways[p];
            }
            before = FAR;
            for (int p = Math.min(ways.length, watched.length) - 1; p >= 0; p--) {
                ways[p] = Math.min(ways[p], before + watched[p]);
                before = ways[p];
            }
        }
    }

    /** Who did not see a thing, by rows of houses told on the tape: from, to, how many. */
    private static final class Denial {
        private static final int ROW = 3;
        private static final int MOST_LENGTH = 36;

        static boolean isTold(Tape tape, int houses) {
            if (tape.length > MOST_LENGTH || tape.length % ROW != 0) {
                return false;
            }
            for (int at = 0; at < tape.length; at += ROW) {
                int to = tape.byteAt(at + 1);
                if (tape.byteAt(at) > to || to >= houses) {
                    return false;
                }
            }
            return true;
        }

        private static boolean fits(Tape tape, int set) {
            for (int at = 0; at < tape.length; at += ROW) {
                int from = tape.byteAt(at);
                int wide = tape.byteAt(at + 1) - from + 1;
                int row = ((1 << wide) - 1) << from;
                if (Integer.bitCount(set & row) != tape.byteAt(at + 2)) {
                    return false;
                }
            }
            return true;
        }

        /** How many sets fit that have all the houses told as bits. */
        static int fitting(Tape tape, int houses, int bits) {
            int count = 0;
            for (int set = 0; set < 1 << houses; set++) {
                if ((set & bits) == bits && fits(tape, set)) {
                    count++;
                }
            }
            return count;
        }

        static int inAll(Tape tape, int houses) {
            int all = (1 << houses) - 1;
            boolean none = true;
            for (int set = 0; set < 1 << houses; set++) {
                if (fits(tape, set)) {
                    all &= set;
                    none = false;
                }
            }
            return none ? 0 : all;
        }

        /** The house to ask next. */
        static int parting(Tape tape, int houses) {
            int count = fitting(tape, houses, 0);
            int least = count + 1;
            int who = NONE;
            for (int h = 0; h < houses && count >= 2; h++) {
                int in = fitting(tape, houses, 1 << h);
                int greater = Math.max(in, count - in);
                if (greater < least) {
                    least = greater;
                    who = h;
                }
            }
            return who;
        }
    }

    /** The acts that can be undone: what the street was ahead of each. */
    private static final class Acts {
        private static final int MOST = 12;

        private final State[] before;
        private int next;
        private int kept;

        Acts() {
            before = new State[MOST];
            for (int i = 0; i < before.length; i++) {
                before[i] = new State();
            }
            next = 0;
            kept = 0;
        }

        void forget() {
            kept = 0;
        }

        void remember(State s) {
            State slot = slotAt(next);
            if (slot != null) {
                slot.copyFrom(s);
                next = (next + 1) % MOST;
                kept = Math.min(kept + 1, MOST);
            }
        }

        boolean takeBack(State s) {
            int latest = (next + MOST - 1) % MOST;
            State slot = slotAt(latest);
            if (kept == 0 || slot == null) {
                return false;
            }
            s.copyFrom(slot);
            next = latest;
            kept--;
            return true;
        }

        private State slotAt(int at) {
            return at >= 0 && at < before.length ? before[at] : null;
        }
    }
}
