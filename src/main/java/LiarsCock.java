import java.util.NoSuchElementException;

/**
 * A cock that points at the last liar. Words in capitals are those of the document.
 *
 * <p>A set of WORLDS is a long: bit w stands for WORLD w. With 6 FACTS there are 64 WORLDS, so each E is
 * worked out once, when it is read, for all WORLDS; what is asked later is a matter of a few masks.
 */
public final class LiarsCock {
    public static final int NONE = -1;

    private static final int LAST_MINUTE = 1439;
    private static final int LAST_BEARING = 359;
    private static final int MOST_FACTS = 6;
    private static final int MOST_PLACES = 6;
    private static final int MOST_PEOPLE = 6;
    private static final int MOST_SAYINGS = 24;
    private static final int MOST_OFFERS = 6;
    private static final int MOST_LOOKS = 12;
    private static final int MOST_WATCHES = 4;
    private static final int MOST_MARKS = 4;
    private static final int MOST_MINUTES_TO_SECRET = 15;

    /** Where a cock may point: the PEOPLE by number, and behind them nobody. */
    private static final int AIMS = MOST_PEOPLE + 1;
    private static final int NOBODY = MOST_PEOPLE;

    /** The WORLDS in which FACT 0, 1, .. is so. */
    private static final long[] FACT_SO = {
        0xAAAAAAAAAAAAAAAAL, 0xCCCCCCCCCCCCCCCCL, 0xF0F0F0F0F0F0F0F0L,
        0xFF00FF00FF00FF00L, 0xFFFF0000FFFF0000L, 0xFFFFFFFF00000000L};

    private final Tape tape = new Tape();
    private final Formula formula = new Formula();
    private final State now = new State();
    private final State[] marks = new State[MOST_MARKS];
    private final boolean[] laid = new boolean[MOST_MARKS];
    private final Aim aim = new Aim();
    private final Talk supposed = new Talk();
    private final Course course = new Course();
    private final Course otherCourse = new Course();
    private final Search search = new Search();
    private final long[] lookFits = new long[MOST_LOOKS];
    private final long[] setFits = new long[1 << MOST_LOOKS];

    public LiarsCock() {
        for (int i = 0; i < marks.length; i++) {
            marks[i] = new State();
        }
    }

    // ---- what is told

    public int feed(long a, long b, long c) {
        tape.put(a);
        tape.put(b);
        tape.put(c);
        return tape.length();
    }

    public int parish() {
        Parish told = new Parish();
        tape.open();
        boolean good = told.read(tape, formula);
        tape.clear();
        if (good) {
            now.begin(told);
            return 0;
        }
        return tape.fault();
    }

    public int say(int person, int minute) {
        int answer = NONE;
        if (isSpeaker(person, minute) && now.said.size() < MOST_SAYINGS && minute >= now.said.lastMinute()) {
            answer = hear(now.said, person, minute);
        }
        tape.clear();
        return answer;
    }

    public int offer(int person, int minute) {
        int answer = NONE;
        if (isSpeaker(person, minute) && now.offered.size() < MOST_OFFERS) {
            answer = hear(now.offered, person, minute);
        }
        tape.clear();
        return answer;
    }

    public boolean truth(int world) {
        if (!now.parish.isWorld(world)) {
            return false;
        }
        now.truth = world;
        return true;
    }

    public int look(int cock, int minute, int from, int to) {
        if (!now.parish.isThere(cock) || !isMinute(minute) || !isBearing(from) || !isBearing(to)
                || now.looks.size() >= MOST_LOOKS) {
            return NONE;
        }
        return now.looks.add(cock, minute, from, to);
    }

    public int watch(int cock, int minute) {
        if (!now.parish.isThere(cock) || !isMinute(minute) || now.watches.size() >= MOST_WATCHES) {
            return NONE;
        }
        return now.watches.add(cock, minute, 0, 0);
    }

    // ---- WORLDS

    public int world(int world) {
        if (!now.parish.isWorld(world)) {
            return NONE;
        }
        if (!holds(now.parish.commonWorlds(), world)) {
            return 0;
        }
        return holds(possible(), world) ? 2 : 1;
    }

    public int lie(int saying, int world) {
        if (!now.said.isIn(saying) || !now.parish.isWorld(world)) {
            return NONE;
        }
        int answer = holds(now.said.so(saying), world) ? 1 : 0;
        answer += holds(now.said.lies(saying, 0), world) ? 2 : 0;
        return answer + (holds(now.said.lies(saying, 1), world) ? 4 : 0);
    }

    public int points(int cock, int minute, int world) {
        if (!now.parish.isThere(cock) || !isMinute(minute) || !now.parish.isWorld(world)) {
            return NONE;
        }
        return now.said.lastLiar(now.parish, cock, minute, world);
    }

    public int worlds(int fact) {
        if (fact == NONE) {
            return Long.bitCount(possible());
        }
        return now.parish.isFact(fact) ? Long.bitCount(possible() & factSo(fact)) : NONE;
    }

    public int sureFact(int fact) {
        return now.parish.isFact(fact) ? sureness(possible(), factSo(fact)) : NONE;
    }

    public int sure(int saying) {
        return now.said.isIn(saying) ? sureness(possible(), now.said.so(saying)) : NONE;
    }

    public long odds(int fact, int what) {
        if (!now.parish.isFact(fact) || !isWhat(what)) {
            return NONE;
        }
        long worlds = possible();
        long all = now.parish.weight(worlds);
        if (all == 0) {
            return NONE;
        }
        long so = now.parish.weight(worlds & factSo(fact));
        long divisor = Math.max(1, greatestDivisor(all, so));
        return (what == 0 ? so : all) / divisor;
    }

    // ---- which LOOKS show it, and when to look

    public int proof(int saying, int what) {
        if (!now.said.isIn(saying) || !isWhat(what)) {
            return NONE;
        }
        long so = now.said.so(saying);
        int sureness = sureness(possible(), so);
        if (sureness > 1) {
            return NONE;
        }
        return sizeOrSet(fewestLooksWithout(sureness == 1 ? ~so : so), what);
    }

    public int clash(int what) {
        if (!isWhat(what) || possible() != 0) {
            return NONE;
        }
        return sizeOrSet(fewestLooksWithout(now.parish.allWorlds()), what);
    }

    public int next(int cock, int from, int to, int what) {
        return bestMinute(cock, from, to, what, false);
    }

    public int fog(int cock, int from, int to, int what) {
        return bestMinute(cock, from, to, what, true);
    }

    public int learns(int person, int fact, boolean so, int minute, int cock) {
        Parish parish = now.parish;
        if (!isSpeaker(person, minute) || !parish.isFact(fact) || !parish.isThere(cock)
                || minute < now.said.lastMinute() || minute + parish.late(cock) > LAST_MINUTE) {
            return NONE;
        }
        long worlds = possible() & parish.alike(parish.known(person), now.truth);
        if (worlds == 0) {
            return NONE;
        }
        supposed.copy(now.said);
        tell(supposed, person, minute, parish.factIs(fact, so));
        aim.take(supposed, parish, cock, minute + parish.late(cock), worlds);
        return aim.tells(factSo(fact)) ? 1 : 0;
    }

    public int lookout(int cock, int fact, int what) {
        long worlds = possible();
        if (!now.parish.isThere(cock) || !now.parish.isFact(fact) || what < 0 || what > 3 || worlds == 0) {
            return NONE;
        }
        search.ask(aim, now, cock, worlds);
        int minutes = search.fewestMinutes(factSo(fact));
        if (what == 0 || minutes == NONE) {
            return minutes;
        }
        return what <= minutes ? search.minute(what - 1) : NONE;
    }

    // ---- by the TRUTH

    public int judged() {
        for (int i = 0; i < now.looks.size(); i++) {
            if (!holds(fitting(i), now.truth)) {
                return i;
            }
        }
        return NONE;
    }

    public int turned(int cock, int minute) {
        if (!now.parish.isThere(cock) || !isMinute(minute)) {
            return NONE;
        }
        course.follow(now, cock);
        return course.turns(minute);
    }

    public int pointed(int cock, int person, int from, int to) {
        if (!now.parish.isThere(cock) || (person != NONE && !now.parish.isPerson(person)) || !isSpan(from, to)) {
            return NONE;
        }
        course.follow(now, cock);
        return course.minutesAt(person, from, to);
    }

    public int round(int cock, int minute) {
        if (!now.parish.isThere(cock) || !isMinute(minute)) {
            return NONE;
        }
        course.follow(now, cock);
        return course.degrees(now.parish, minute);
    }

    public int longest(int cock, int from, int to, int what) {
        if (!now.parish.isThere(cock) || !isSpan(from, to) || !isWhat(what)) {
            return NONE;
        }
        course.follow(now, cock);
        int part = course.longestPart(from, to);
        if (part == NONE) {
            return NONE;
        }
        return what == 0 ? course.minutesOf(part, from, to) : course.whom(part);
    }

    public int differ(int from, int to) {
        if (!now.parish.isThere(1) || !isSpan(from, to)) {
            return NONE;
        }
        course.follow(now, 0);
        otherCourse.follow(now, 1);
        return course.minutesUnlike(otherCourse, from, to);
    }

    public int move(int cock, int but) {
        Parish parish = now.parish;
        if (!parish.isThere(cock) || (but != NONE && !parish.isPerson(but))) {
            return NONE;
        }
        for (int person = 0; person < parish.people(); person++) {
            int lie = person == but ? NONE : firstLie(person, parish.law(cock));
            if (lie != NONE) {
                return person * 12 + lie;
            }
        }
        return NONE;
    }

    // ---- how a lie is hidden

    public int hidden(int saying, int offers) {
        if (!isPlainLie(saying) || !isSet(offers, now.offered.size())) {
            return NONE;
        }
        return isHidden(saying, offers) ? 1 : 0;
    }

    public int hide(int saying, int what) {
        if (!isPlainLie(saying) || !isWhat(what)) {
            return NONE;
        }
        int best = NONE;
        for (int set = 0; set < 1 << now.offered.size(); set++) {
            if (isFewer(set, best) && isHidden(saying, set)) {
                best = set;
            }
        }
        return sizeOrSet(best, what);
    }

    public long secret(int saying, int cock, int ten, int n, int what) throws NoSuchElementException {
        Parish parish = now.parish;
        if (!now.said.isIn(saying) || !parish.isThere(cock) || ten < 1 || ten > 9
                || n < 1 || n > MOST_MINUTES_TO_SECRET || !isWhat(what)) {
            throw new NoSuchElementException("no such saying, cock, chance, number of minutes or what");
        }
        int from = now.said.minute(saying) + parish.late(cock);
        int to = from + n - 1;
        if (!holds(now.said.lies(saying, parish.law(cock)), now.truth) || to > LAST_MINUTE) {
            throw new NoSuchElementException("no lie for this cock, or behind the last minute");
        }
        course.follow(now, cock);
        int seen = course.minutesAt(now.said.speaker(saying), from, to);
        int divisor = Math.max(1, (int) greatestDivisor(10, 10 - ten));
        return power((what == 0 ? 10 - ten : 10) / divisor, seen);
    }

    // ---- people and places

    public int sector(int from, int to) {
        if (!isBearing(from) || !isBearing(to)) {
            return NONE;
        }
        int held = 0;
        for (int person = 0; person < now.parish.people(); person++) {
            if (isWithin(now.parish.bearing(person), from, to)) {
                held |= 1 << person;
            }
        }
        return held;
    }

    public int blind(int width, int what) {
        if (width < 0 || width > 180 || !isWhat(what)) {
            return NONE;
        }
        int pairs = 0;
        int greatest = 0;
        for (int person = 0; person < now.parish.people(); person++) {
            pairs += Integer.bitCount(now.parish.near(1 << person, width)) - 1;
            greatest = Math.max(greatest, Integer.bitCount(crowd(person, width)));
        }
        return what == 0 ? pairs / 2 : greatest;
    }

    public int told(int people) {
        return isSet(people, now.parish.people()) ? now.parish.factsTold(people, now.truth) : NONE;
    }

    public int fewest(int fact, int what) {
        if (!now.parish.isFact(fact) || !isWhat(what)) {
            return NONE;
        }
        int best = NONE;
        for (int set = 0; set < 1 << now.parish.people(); set++) {
            if (isFewer(set, best) && (now.parish.factsTold(set, now.truth) >> fact & 1) == 1) {
                best = set;
            }
        }
        return sizeOrSet(best, what);
    }

    public int person(int person, int what) {
        if (!now.parish.isPerson(person)) {
            return NONE;
        }
        switch (what) {
            case 0: return now.parish.home(person);
            case 1: return now.parish.bearing(person);
            case 2: return now.parish.known(person);
            default: return NONE;
        }
    }

    // ---- MARKS and counts

    public boolean mark(int mark, boolean back) {
        if (mark < 0 || mark >= marks.length || mark >= laid.length || marks[mark] == null) {
            return false;
        }
        if (!back) {
            marks[mark].copy(now);
            laid[mark] = true;
            return true;
        }
        if (laid[mark]) {
            now.copy(marks[mark]);
        }
        return laid[mark];
    }

    public int count(int what) {
        switch (what) {
            case 0: return now.parish.facts();
            case 1: return now.parish.places();
            case 2: return now.parish.people();
            case 3: return now.parish.commons();
            case 4: return now.parish.isThere(1) ? 2 : 1;
            case 5: return now.said.size();
            case 6: return now.looks.size();
            case 7: return now.offered.size();
            case 8: return now.watches.size();
            case 9: return now.truth;
            case 10: return tape.length();
            case 11: return Long.bitCount(now.parish.commonWorlds());
            default: return NONE;
        }
    }

    // ---- what is as told

    private static boolean isMinute(int minute) {
        return minute >= 0 && minute <= LAST_MINUTE;
    }

    private static boolean isSpan(int from, int to) {
        return isMinute(from) && isMinute(to) && from <= to;
    }

    private static boolean isBearing(int bearing) {
        return bearing >= 0 && bearing <= LAST_BEARING;
    }

    private static boolean isWhat(int what) {
        return what == 0 || what == 1;
    }

    private static boolean isSet(int set, int size) {
        return set >= 0 && set < 1 << size;
    }

    private boolean isSpeaker(int person, int minute) {
        return now.parish.isPerson(person) && isMinute(minute);
    }

    private boolean isPlainLie(int saying) {
        return now.said.isIn(saying) && holds(now.said.lies(saying, now.parish.law(0)), now.truth);
    }

    // ---- bits and numbers

    private static boolean holds(long worlds, int world) {
        return (worlds >>> world & 1) == 1;
    }

    private static long factSo(int fact) {
        return fact >= 0 && fact < FACT_SO.length ? FACT_SO[fact] : 0;
    }

    /** 1: so in all of the WORLDS, 0: in none, 2: OPEN, 3: there is no WORLD. */
    private static int sureness(long worlds, long so) {
        if (worlds == 0) {
            return 3;
        }
        if ((worlds & ~so) == 0) {
            return 1;
        }
        return (worlds & so) == 0 ? 0 : 2;
    }

    /** Sets are tried by growing bits, so a set of as many as the best so far is not the least one. */
    private static boolean isFewer(int set, int best) {
        return best == NONE || Integer.bitCount(set) < Integer.bitCount(best);
    }

    private static int sizeOrSet(int set, int what) {
        if (set == NONE) {
            return NONE;
        }
        return what == 0 ? Integer.bitCount(set) : set;
    }

    private static boolean isWithin(int bearing, int from, int to) {
        return from <= to ? bearing >= from && bearing <= to : bearing >= from || bearing <= to;
    }

    private static int shorterWay(int one, int other) {
        int way = Math.abs(one - other);
        return Math.min(way, 360 - way);
    }

    private static long greatestDivisor(long one, long other) {
        long great = one;
        long small = other;
        for (int i = 0; i < 100 && small != 0; i++) {
            long rest = great % small;
            great = small;
            small = rest;
        }
        return great;
    }

    private static long power(long base, int exponent) {
        long product = 1;
        for (int i = 0; i < exponent; i++) {
            product *= base;
        }
        return product;
    }

    // ---- parts of the answers

    /** Reads the TAPE as what one says, and puts it behind the talk if there is no FAULT. */
    private int hear(Talk talk, int person, int minute) {
        tape.open();
        if (tape.kind() == Tape.END) {
            talk.add(person, minute, 0, 0, 0);
            return 0;
        }
        if (!formula.read(tape, now.parish) || !tape.ends()) {
            return tape.fault();
        }
        tell(talk, person, minute, formula.worldsSo(now.parish.facts()));
        return 0;
    }

    private void tell(Talk talk, int person, int minute, long so) {
        Parish parish = now.parish;
        talk.add(person, minute, so, parish.lies(so, 0, person), parish.lies(so, 1, person));
    }

    /** The WORLDS by which the cock pointed into the SECTOR of a LOOK. */
    private long fitting(int look) {
        Looks looks = now.looks;
        aim.take(now.said, now.parish, looks.cock(look), looks.minute(look), now.parish.allWorlds());
        return aim.within(now.parish, looks.from(look), looks.to(look));
    }

    /** The WORLDS that CAN BE. */
    private long possible() {
        long worlds = now.parish.commonWorlds();
        for (int i = 0; i < now.looks.size() && worlds != 0; i++) {
            worlds &= fitting(i);
        }
        return worlds;
    }

    /** The fewest LOOKS with which no COMMON WORLD that fits is one of these; of equal ones the least as bits. */
    private int fewestLooksWithout(long unwanted) {
        int looks = Math.min(now.looks.size(), lookFits.length);
        for (int i = 0; i < looks; i++) {
            lookFits[i] = fitting(i);
        }
        int best = NONE;
        for (int set = 0; set < 1 << looks && set < setFits.length; set++) {
            setFits[set] = fittingSet(set);
            if (isFewer(set, best) && (setFits[set] & unwanted) == 0) {
                best = set;
            }
        }
        return best;
    }

    /** The COMMON WORLDS that fit a set of LOOKS: those that fit it without its first LOOK, and that LOOK. */
    private long fittingSet(int set) {
        int first = Integer.numberOfTrailingZeros(set);
        int others = set & (set - 1);
        if (set <= 0 || others >= setFits.length || first >= lookFits.length) {
            return now.parish.commonWorlds();
        }
        return setFits[others] & lookFits[first];
    }

    /** Where a cock points changes only late behind a SAYING, so no MINUTE between can be a better first one. */
    private int bestMinute(int cock, int from, int to, int what, boolean apart) {
        if (!now.parish.isThere(cock) || !isSpan(from, to) || !isWhat(what)) {
            return NONE;
        }
        long worlds = possible();
        if (worlds == 0) {
            return NONE;
        }
        int best = from;
        int most = worth(cock, from, worlds, apart);
        for (int i = 0; i < now.said.size(); i++) {
            int minute = now.said.minute(i) + now.parish.late(cock);
            int worth = minute > from && minute <= to ? worth(cock, minute, worlds, apart) : most;
            if (worth > most) {
                most = worth;
                best = minute;
            }
        }
        return what == 0 ? best : Math.abs(most);
    }

    /** What a look in a MINUTE is worth: the bearings told apart, or, below 0, the WORLDS left at the worst. */
    private int worth(int cock, int minute, long worlds, boolean apart) {
        aim.take(now.said, now.parish, cock, minute, worlds);
        return apart ? aim.bearings() : -aim.largest();
    }

    private boolean isHidden(int saying, int offers) {
        supposed.copy(now.said);
        for (int i = 0; i < now.offered.size(); i++) {
            if ((offers >> i & 1) == 1) {
                supposed.insert(now.offered, i);
            }
        }
        long worlds = now.parish.commonWorlds();
        for (int i = 0; i < now.watches.size(); i++) {
            aim.take(supposed, now.parish, now.watches.cock(i), now.watches.minute(i), now.parish.allWorlds());
            worlds &= aim.groupOf(now.truth);
        }
        return worlds == 0 || (worlds & now.said.so(saying)) != 0;
    }

    /** The first FACT (* 2, and 1 more for not so) that one could say as a LIE by the TRUTH. */
    private int firstLie(int person, int law) {
        for (int i = 0; i < now.parish.facts() * 2; i++) {
            long so = now.parish.factIs(i >> 1, (i & 1) == 0);
            if (holds(now.parish.lies(so, law, person), now.truth)) {
                return i;
            }
        }
        return NONE;
    }

    private int crowd(int person, int width) {
        int crowd = 1 << person;
        for (int i = 0; i < MOST_PEOPLE; i++) {
            crowd = now.parish.near(crowd, width);
        }
        return crowd;
    }

    /** The TAPE, and how it is read token by token. */
    private static final class Tape {
        static final int MOST = 1000;
        static final int END = 0;
        static final int UNKNOWN = 1;
        static final int WORD = 2;
        static final int NUMBER = 3;
        /** Any other sign: those that are none are never wanted, and so wrong like one that can't stand there. */
        static final int SIGN = 4;

        /** WORDS are held as feed() is given them: a byte a letter, the first one highest. */
        static final long FACT = 0x66616374L;
        static final long CHANCE = 0x6368616E6365L;
        static final long PLACE = 0x706C616365L;
        static final long BEARING = 0x62656172696E67L;
        static final long PERSON = 0x706572736F6EL;
        static final long AT = 0x6174L;
        static final long KNOWS = 0x6B6E6F7773L;
        static final long COMMON = 0x636F6D6D6F6EL;
        static final long COCK = 0x636F636BL;
        static final long LAW = 0x6C6177L;
        static final long LATE = 0x6C617465L;
        static final long NOT = 0x6E6F74L;
        static final long AND = 0x616E64L;
        static final long OR = 0x6F72L;
        private static final long[] TAKEN = {
            FACT, CHANCE, PLACE, BEARING, PERSON, AT, KNOWS, COMMON, COCK, LAW, LATE, NOT, AND, OR};

        private final char[] signs = new char[MOST];
        private int length;
        private int behind;
        private int kind;
        private int place;
        private char sign;
        private int number;
        private long word;
        private int fault;

        int length() {
            return length;
        }

        void clear() {
            length = 0;
        }

        void put(long eight) {
            for (int shift = 56; shift >= 0; shift -= 8) {
                char added = (char) (eight >>> shift & 255);
                boolean fits = added == 10 || (added >= 32 && added <= 126);
                if (fits && length >= 0 && length < signs.length) {
                    signs[length] = added;
                    length++;
                }
            }
        }

        /** Starts to read: the first token is at hand then. */
        void open() {
            behind = 0;
            fault = 0;
            step();
        }

        /** Goes to the token behind the one at hand. */
        void step() {
            place = behindBlanks(behind);
            sign = place >= 0 && place < length && place < signs.length ? signs[place] : ' ';
            int wordEnd = runEnd('a', 'z');
            int numberEnd = runEnd('0', '9');
            if (place >= length) {
                kind = END;
                behind = place;
            } else if (wordEnd > place) {
                readWord(wordEnd);
            } else if (numberEnd > place) {
                readNumber(numberEnd);
            } else {
                kind = SIGN;
                behind = place + 1;
            }
        }

        private int behindBlanks(int from) {
            int i = from;
            while (i >= 0 && i < length && i < signs.length && (signs[i] == 10 || signs[i] == ' ')) {
                i++;
            }
            return i;
        }

        /** Where the signs of a range end that stand at the token's place. */
        private int runEnd(char low, char high) {
            int i = place;
            while (i >= 0 && i < length && i < signs.length && signs[i] >= low && signs[i] <= high) {
                i++;
            }
            return i;
        }

        private void readWord(int end) {
            word = 0;
            for (int i = place; i >= 0 && i < end && i < signs.length; i++) {
                word = word << 8 | signs[i];
            }
            kind = end - place <= 8 ? WORD : UNKNOWN;
            behind = end;
        }

        private void readNumber(int end) {
            number = 0;
            for (int i = place; i >= 0 && i < end && i < signs.length; i++) {
                number = number * 10 + signs[i] - '0';
            }
            kind = end - place <= 4 ? NUMBER : UNKNOWN;
            behind = end;
        }

        int kind() {
            return kind;
        }

        int number() {
            return number;
        }

        long word() {
            return word;
        }

        boolean isWord(long wanted) {
            return kind == WORD && word == wanted;
        }

        boolean isSign(char wanted) {
            return kind == SIGN && sign == wanted;
        }

        /** Whether the token at hand is a WORD that may be a NAME. */
        boolean isName() {
            if (kind != WORD) {
                return false;
            }
            for (long taken : TAKEN) {
                if (word == taken) {
                    return false;
                }
            }
            return true;
        }

        /** Notes the FAULT of the token at hand; the first one counts. Answers false, for who reads on. */
        boolean wrong(int why) {
            if (fault == 0) {
                fault = why + 16 * place;
            }
            return false;
        }

        int fault() {
            return fault;
        }

        boolean takeWord(long wanted) {
            if (!isWord(wanted)) {
                return wrong(1);
            }
            step();
            return true;
        }

        boolean takeSign(char wanted) {
            if (!isSign(wanted)) {
                return wrong(1);
            }
            step();
            return true;
        }

        /** Whether a NUMBER up to the most is at hand; it stays at hand, as more may be asked of it. */
        boolean numberUpTo(int most) {
            if (kind != NUMBER) {
                return wrong(1);
            }
            return number <= most || wrong(4);
        }

        boolean ends() {
            return kind == END || wrong(1);
        }
    }

    /** An E, held as steps on a stack, so that it is read once and worked out for each WORLD. */
    private static final class Formula {
        private static final int DEEPEST = 5;
        /** A step is a NUMBER of 0 or more, a FACT (FIRST_FACT, one less for each further one), or one of these. */
        private static final int FIRST_FACT = -1;
        private static final int LAST_FACT = FIRST_FACT - MOST_FACTS + 1;
        private static final int NOT = -10;
        private static final int AND = -11;
        private static final int OR = -12;
        private static final int LESS = -13;
        private static final int EQUAL = -14;
        private static final int PLUS = -15;
        private static final int MINUS = -16;
        private static final int TIMES = -17;

        private final int[] steps = new int[Tape.MOST];
        private final int[] stack = new int[64];
        private int size;
        private int height;

        /** Reads an E up to the first token that can't go on with it; false if there is a FAULT. */
        boolean read(Tape tape, Parish parish) {
            size = 0;
            return readTests(tape, parish, 0);
        }

        private boolean readTests(Tape tape, Parish parish, int depth) {
            if (!readTest(tape, parish, depth)) {
                return false;
            }
            for (int i = 0; i < Tape.MOST && (tape.isWord(Tape.AND) || tape.isWord(Tape.OR)); i++) {
                int join = tape.isWord(Tape.AND) ? AND : OR;
                tape.step();
                if (!readTest(tape, parish, depth)) {
                    return false;
                }
                write(join);
            }
            return true;
        }

        private boolean readTest(Tape tape, Parish parish, int depth) {
            if (!readSum(tape, parish, depth)) {
                return false;
            }
            if (!tape.isSign('<') && !tape.isSign('=')) {
                return true;
            }
            int join = tape.isSign('<') ? LESS : EQUAL;
            tape.step();
            if (!readSum(tape, parish, depth)) {
                return false;
            }
            write(join);
            return true;
        }

        private boolean readSum(Tape tape, Parish parish, int depth) {
            if (!readProduct(tape, parish, depth)) {
                return false;
            }
            for (int i = 0; i < Tape.MOST && (tape.isSign('+') || tape.isSign('-')); i++) {
                int join = tape.isSign('+') ? PLUS : MINUS;
                tape.step();
                if (!readProduct(tape, parish, depth)) {
                    return false;
                }
                write(join);
            }
            return true;
        }

        private boolean readProduct(Tape tape, Parish parish, int depth) {
            if (!readPart(tape, parish, depth)) {
                return false;
            }
            for (int i = 0; i < Tape.MOST && tape.isSign('*'); i++) {
                tape.step();
                if (!readPart(tape, parish, depth)) {
                    return false;
                }
                write(TIMES);
            }
            return true;
        }

        /** The depth is of how many not and ( ) are round the PART. */
        private boolean readPart(Tape tape, Parish parish, int depth) {
            boolean isNot = tape.isWord(Tape.NOT);
            boolean opens = tape.isSign('(');
            boolean isName = tape.isName();
            if (!isNot && !opens && !isName && tape.kind() != Tape.NUMBER) {
                return tape.wrong(1);
            }
            int fact = isName ? parish.factNamed(tape.word()) : NONE;
            if (isName && fact == NONE) {
                return tape.wrong(2);
            }
            if (depth >= DEEPEST) {
                return tape.wrong(5);
            }
            if (!isNot && !opens) {
                write(isName ? FIRST_FACT - fact : tape.number());
                tape.step();
                return true;
            }
            tape.step();
            return opens ? readClosed(tape, parish, depth) : readNot(tape, parish, depth);
        }

        private boolean readNot(Tape tape, Parish parish, int depth) {
            boolean good = readPart(tape, parish, depth + 1);
            write(NOT);
            return good;
        }

        private boolean readClosed(Tape tape, Parish parish, int depth) {
            if (!readTests(tape, parish, depth + 1)) {
                return false;
            }
            if (!tape.isSign(')')) {
                return tape.wrong(1);
            }
            tape.step();
            return true;
        }

        private void write(int step) {
            if (size >= 0 && size < steps.length) {
                steps[size] = step;
                size++;
            }
        }

        /** The WORLDS of so many FACTS in which the E is not 0. */
        long worldsSo(int facts) {
            long so = 0;
            for (int world = 0; world < 1 << facts; world++) {
                if (value(world) != 0) {
                    so |= 1L << world;
                }
            }
            return so;
        }

        private int value(int world) {
            height = 0;
            for (int i = 0; i < size && i < steps.length; i++) {
                int step = steps[i];
                if (step >= 0) {
                    push(step);
                } else if (step >= LAST_FACT) {
                    push(world >> (FIRST_FACT - step) & 1);
                } else if (step == NOT) {
                    push(pop() == 0 ? 1 : 0);
                } else {
                    int right = pop();
                    push(joined(step, pop(), right));
                }
            }
            return pop();
        }

        private static int joined(int join, int left, int right) {
            switch (join) {
                case AND: return left != 0 && right != 0 ? 1 : 0;
                case OR: return left != 0 || right != 0 ? 1 : 0;
                case LESS: return left < right ? 1 : 0;
                case EQUAL: return left == right ? 1 : 0;
                case PLUS: return left + right;
                case MINUS: return left - right;
                default: return left * right;
            }
        }

        private void push(int value) {
            if (height >= 0 && height < stack.length) {
                stack[height] = value;
                height++;
            }
        }

        private int pop() {
            if (height <= 0 || height > stack.length) {
                return 0;
            }
            height--;
            return stack[height];
        }
    }

    /** What a PARISH tells. Once it is read it stays as it is, so MARKS may share it. */
    private static final class Parish {
        private static final int MOST_COMMON = 4;
        private static final int COCKS = 2;

        private int facts;
        private int places;
        private int people;
        private int commons;
        private final long[] factNames = new long[MOST_FACTS];
        private final int[] chances = new int[MOST_FACTS];
        private final long[] placeNames = new long[MOST_PLACES];
        private final int[] placeBearings = new int[MOST_PLACES];
        private final long[] personNames = new long[MOST_PEOPLE];
        private final int[] homes = new int[MOST_PEOPLE];
        private final int[] bearings = new int[MOST_PEOPLE];
        private final int[] knowledge = new int[MOST_PEOPLE];
        private final boolean[] cockTold = new boolean[COCKS];
        private final int[] laws = new int[COCKS];
        private final int[] lates = new int[COCKS];
        private long commonWorlds = 1;

        /** Reads the whole TAPE; false if there is a FAULT. */
        boolean read(Tape tape, Formula formula) {
            boolean good = true;
            for (int i = 0; i < Tape.MOST && good && tape.kind() != Tape.END; i++) {
                if (tape.isWord(Tape.FACT)) {
                    good = readFact(tape);
                } else if (tape.isWord(Tape.PLACE)) {
                    good = readPlace(tape);
                } else if (tape.isWord(Tape.PERSON)) {
                    good = readPerson(tape);
                } else if (tape.isWord(Tape.COMMON)) {
                    good = readCommon(tape, formula);
                } else {
                    good = tape.takeWord(Tape.COCK) && readCock(tape);
                }
            }
            return good;
        }

        /** Goes behind the word that starts a line, if one more such line may be told, up to a NAME not told yet. */
        private boolean startLine(Tape tape, int told, int most) {
            if (told >= most) {
                return tape.wrong(5);
            }
            tape.step();
            if (!tape.isName()) {
                return tape.wrong(1);
            }
            return !isTold(tape.word()) || tape.wrong(3);
        }

        private boolean readFact(Tape tape) {
            if (!startLine(tape, facts, MOST_FACTS)) {
                return false;
            }
            long name = tape.word();
            int chance = 5;
            tape.step();
            if (tape.isWord(Tape.CHANCE)) {
                tape.step();
                if (!tape.numberUpTo(10)) {
                    return false;
                }
                chance = tape.number();
                tape.step();
            }
            if (!tape.takeSign(';')) {
                return false;
            }
            addFact(name, chance);
            return true;
        }

        /** What is COMMON so far says nothing of a new FACT: each WORLD is doubled. */
        private void addFact(long name, int chance) {
            if (facts >= 0 && facts < factNames.length && facts < chances.length) {
                factNames[facts] = name;
                chances[facts] = chance;
                commonWorlds |= commonWorlds << (1 << facts);
                facts++;
            }
        }

        private boolean readPlace(Tape tape) {
            if (!startLine(tape, places, MOST_PLACES)) {
                return false;
            }
            long name = tape.word();
            tape.step();
            if (!tape.takeWord(Tape.BEARING) || !tape.numberUpTo(LAST_BEARING)) {
                return false;
            }
            int bearing = tape.number();
            tape.step();
            if (!tape.takeSign(';')) {
                return false;
            }
            addPlace(name, bearing);
            return true;
        }

        private void addPlace(long name, int bearing) {
            if (places >= 0 && places < placeNames.length && places < placeBearings.length) {
                placeNames[places] = name;
                placeBearings[places] = bearing;
                places++;
            }
        }

        private boolean readPerson(Tape tape) {
            if (!startLine(tape, people, MOST_PEOPLE)) {
                return false;
            }
            long name = tape.word();
            tape.step();
            if (!tape.takeWord(Tape.AT)) {
                return false;
            }
            int home = readTold(tape, placeNames, places);
            if (home == NONE || !tape.takeWord(Tape.KNOWS)) {
                return false;
            }
            int known = 0;
            for (int i = 0; i <= MOST_FACTS && !tape.isSign(';'); i++) {
                int fact = readKnown(tape, known);
                if (fact == NONE) {
                    return false;
                }
                known |= 1 << fact;
            }
            if (!tape.takeSign(';')) {
                return false;
            }
            addPerson(name, home, known);
            return true;
        }

        /** A NAME that must be told: its number, and the TAPE goes behind it; NONE with a FAULT. */
        private static int readTold(Tape tape, long[] names, int told) {
            if (!tape.isName()) {
                tape.wrong(1);
                return NONE;
            }
            int number = find(names, told, tape.word());
            if (number == NONE) {
                tape.wrong(2);
                return NONE;
            }
            tape.step();
            return number;
        }

        private int readKnown(Tape tape, int known) {
            int fact = tape.isName() ? factNamed(tape.word()) : NONE;
            if (fact != NONE && (known >> fact & 1) == 1) {
                tape.wrong(3);
                return NONE;
            }
            return readTold(tape, factNames, facts);
        }

        private void addPerson(long name, int home, int known) {
            if (people >= 0 && people < personNames.length && people < homes.length && people < bearings.length
                    && people < knowledge.length && home >= 0 && home < placeBearings.length) {
                personNames[people] = name;
                homes[people] = home;
                bearings[people] = placeBearings[home];
                knowledge[people] = known;
                people++;
            }
        }

        private boolean readCommon(Tape tape, Formula formula) {
            if (commons >= MOST_COMMON) {
                return tape.wrong(5);
            }
            tape.step();
            if (!formula.read(tape, this) || !tape.takeSign(';')) {
                return false;
            }
            commonWorlds &= formula.worldsSo(facts);
            commons++;
            return true;
        }

        private boolean readCock(Tape tape) {
            if (!tape.numberUpTo(COCKS - 1)) {
                return false;
            }
            int cock = tape.number();
            if (isCock(cock) && cockTold[cock]) {
                return tape.wrong(3);
            }
            tape.step();
            if (!tape.takeWord(Tape.LAW) || !tape.numberUpTo(1)) {
                return false;
            }
            int law = tape.number();
            tape.step();
            if (!tape.takeWord(Tape.LATE) || !tape.numberUpTo(60)) {
                return false;
            }
            int late = tape.number();
            tape.step();
            if (!tape.takeSign(';')) {
                return false;
            }
            addCock(cock, law, late);
            return true;
        }

        private void addCock(int cock, int law, int late) {
            if (isCock(cock)) {
                cockTold[cock] = true;
                laws[cock] = law;
                lates[cock] = late;
            }
        }

        private boolean isCock(int cock) {
            return cock >= 0 && cock < cockTold.length && cock < laws.length && cock < lates.length;
        }

        private static int find(long[] names, int told, long name) {
            for (int i = 0; i < told && i < names.length; i++) {
                if (names[i] == name) {
                    return i;
                }
            }
            return NONE;
        }

        private boolean isTold(long name) {
            return find(factNames, facts, name) != NONE || find(placeNames, places, name) != NONE
                    || find(personNames, people, name) != NONE;
        }

        int factNamed(long name) {
            return find(factNames, facts, name);
        }

        int facts() {
            return facts;
        }

        int places() {
            return places;
        }

        int people() {
            return people;
        }

        int commons() {
            return commons;
        }

        boolean isWorld(int world) {
            return world >= 0 && world < 1 << facts;
        }

        boolean isFact(int fact) {
            return fact >= 0 && fact < facts;
        }

        boolean isPerson(int person) {
            return person >= 0 && person < people;
        }

        /** Cock 0 is there without a line, too. */
        boolean isThere(int cock) {
            return isCock(cock) && (cock == 0 || cockTold[cock]);
        }

        int law(int cock) {
            return isCock(cock) ? laws[cock] : 0;
        }

        int late(int cock) {
            return isCock(cock) ? lates[cock] : 0;
        }

        int home(int person) {
            return isPerson(person) && person < homes.length ? homes[person] : NONE;
        }

        /** The bearing of the PLACE of one; of nobody it is 0. */
        int bearing(int person) {
            return person >= 0 && person < people && person < bearings.length ? bearings[person] : 0;
        }

        int known(int person) {
            return isPerson(person) && person < knowledge.length ? knowledge[person] : 0;
        }

        /** 6 FACTS fill the long: a 1 shifted by 64 would not leave it. */
        long allWorlds() {
            return facts >= MOST_FACTS ? -1L : (1L << (1 << facts)) - 1;
        }

        long commonWorlds() {
            return commonWorlds;
        }

        /** The WORLDS in which a FACT is so, or is not. */
        long factIs(int fact, boolean so) {
            return allWorlds() & (so ? factSo(fact) : ~factSo(fact));
        }

        /** The WORLDS in which these FACTS are as in this one. */
        long alike(int known, int world) {
            long worlds = allWorlds();
            for (int fact = 0; fact < facts; fact++) {
                if ((known >> fact & 1) == 1) {
                    worlds &= factIs(fact, (world >> fact & 1) == 1);
                }
            }
            return worlds;
        }

        /** The WORLDS in which what one says, SO in these WORLDS, is a LIE by a law. */
        long lies(long so, int law, int person) {
            if (law == 0) {
                return allWorlds() & ~so;
            }
            long reckoned = so & commonWorlds;
            for (int fact = 0; fact < facts; fact++) {
                if ((known(person) >> fact & 1) == 0) {
                    reckoned |= eitherWay(reckoned, fact);
                }
            }
            return allWorlds() & ~reckoned;
        }

        /** The WORLDS that come of these by turning a FACT over. */
        private static long eitherWay(long worlds, int fact) {
            int far = 1 << fact;
            return (worlds & factSo(fact)) >>> far | (worlds & ~factSo(fact)) << far;
        }

        long weight(long worlds) {
            long sum = 0;
            for (int world = 0; world < 1 << facts; world++) {
                if (holds(worlds, world)) {
                    sum += weightOf(world);
                }
            }
            return sum;
        }

        private long weightOf(int world) {
            long weight = 1;
            for (int fact = 0; fact < facts && fact < chances.length; fact++) {
                weight *= (world >> fact & 1) == 1 ? chances[fact] : 10 - chances[fact];
            }
            return weight;
        }

        /** The FACTS that are TOLD by a set of PEOPLE. */
        int factsTold(int set, int truth) {
            int known = 0;
            for (int person = 0; person < people; person++) {
                known |= (set >> person & 1) == 1 ? known(person) : 0;
            }
            long worlds = commonWorlds & alike(known, truth);
            int told = 0;
            for (int fact = 0; fact < facts; fact++) {
                if (sureness(worlds, factSo(fact)) <= 1) {
                    told |= 1 << fact;
                }
            }
            return told;
        }

        /** The PEOPLE who lie no farther than the width from one of a set (these are, too). */
        int near(int set, int width) {
            int near = 0;
            for (int one = 0; one < people; one++) {
                for (int other = 0; other < people; other++) {
                    boolean isNear = shorterWay(bearing(one), bearing(other)) <= width;
                    near |= isNear && (set >> other & 1) == 1 ? 1 << one : 0;
                }
            }
            return near;
        }
    }

    /** SAYINGS, or OFFERS: who, when, in which WORLDS it is SO, in which a LIE by each law (a QUESTION: in none). */
    private static final class Talk {
        /** All SAYINGS and OFFERS together, and one that is only supposed. */
        private static final int MOST = MOST_SAYINGS + MOST_OFFERS + 1;

        private final int[] speakers = new int[MOST];
        private final int[] minutes = new int[MOST];
        private final long[] so = new long[MOST];
        private final long[] plainLies = new long[MOST];
        private final long[] knownLies = new long[MOST];
        private int size;

        int size() {
            return size;
        }

        void clear() {
            size = 0;
        }

        boolean isIn(int i) {
            return i >= 0 && i < size && i < MOST;
        }

        int speaker(int i) {
            return isIn(i) && i < speakers.length ? speakers[i] : NONE;
        }

        int minute(int i) {
            return isIn(i) && i < minutes.length ? minutes[i] : 0;
        }

        long so(int i) {
            return isIn(i) && i < so.length ? so[i] : 0;
        }

        long lies(int i, int law) {
            if (!isIn(i) || i >= plainLies.length || i >= knownLies.length) {
                return 0;
            }
            return law == 0 ? plainLies[i] : knownLies[i];
        }

        int lastMinute() {
            return minute(size - 1);
        }

        void add(int speaker, int minute, long isSo, long isPlainLie, long isKnownLie) {
            size = Math.min(size + 1, MOST);
            set(size - 1, speaker, minute, isSo, isPlainLie, isKnownLie);
        }

        private void set(int i, int speaker, int minute, long isSo, long isPlainLie, long isKnownLie) {
            if (isIn(i) && i < speakers.length && i < minutes.length && i < so.length
                    && i < plainLies.length && i < knownLies.length) {
                speakers[i] = speaker;
                minutes[i] = minute;
                so[i] = isSo;
                plainLies[i] = isPlainLie;
                knownLies[i] = isKnownLie;
            }
        }

        private void setFrom(int i, Talk other, int j) {
            set(i, other.speaker(j), other.minute(j), other.so(j), other.lies(j, 0), other.lies(j, 1));
        }

        void copy(Talk other) {
            size = Math.min(other.size, MOST);
            for (int i = 0; i < size; i++) {
                setFrom(i, other, i);
            }
        }

        /** Puts one of another talk behind all that are not behind its MINUTE. */
        void insert(Talk other, int j) {
            size = Math.min(size + 1, MOST);
            int i = size - 1;
            while (i > 0 && minute(i - 1) > other.minute(j)) {
                setFrom(i, this, i - 1);
                i--;
            }
            setFrom(i, other, j);
        }

        /** At whom a cock POINTS in a WORLD. */
        int lastLiar(Parish parish, int cock, int minute, int world) {
            for (int i = size - 1; i >= 0; i--) {
                if (minute(i) + parish.late(cock) <= minute && holds(lies(i, parish.law(cock)), world)) {
                    return speaker(i);
                }
            }
            return NONE;
        }
    }

    /** LOOKS, or WATCHES (which have no SECTOR). */
    private static final class Looks {
        private final int[] cocks = new int[MOST_LOOKS];
        private final int[] minutes = new int[MOST_LOOKS];
        private final int[] froms = new int[MOST_LOOKS];
        private final int[] tos = new int[MOST_LOOKS];
        private int size;

        int size() {
            return size;
        }

        void clear() {
            size = 0;
        }

        private boolean isIn(int[] row, int i) {
            return i >= 0 && i < size && i < row.length;
        }

        int cock(int i) {
            return isIn(cocks, i) ? cocks[i] : 0;
        }

        int minute(int i) {
            return isIn(minutes, i) ? minutes[i] : 0;
        }

        int from(int i) {
            return isIn(froms, i) ? froms[i] : 0;
        }

        int to(int i) {
            return isIn(tos, i) ? tos[i] : 0;
        }

        /** The number of the new one. */
        int add(int cock, int minute, int from, int to) {
            int i = size;
            if (i < 0 || i >= cocks.length || i >= minutes.length || i >= froms.length || i >= tos.length) {
                return NONE;
            }
            cocks[i] = cock;
            minutes[i] = minute;
            froms[i] = from;
            tos[i] = to;
            size++;
            return i;
        }

        void copy(Looks other) {
            size = 0;
            for (int i = 0; i < other.size; i++) {
                add(other.cock(i), other.minute(i), other.from(i), other.to(i));
            }
        }
    }

    /** All that a MARK holds. */
    private static final class State {
        private Parish parish = new Parish();
        private final Talk said = new Talk();
        private final Talk offered = new Talk();
        private final Looks looks = new Looks();
        private final Looks watches = new Looks();
        private int truth;

        void begin(Parish told) {
            parish = told;
            said.clear();
            offered.clear();
            looks.clear();
            watches.clear();
            truth = 0;
        }

        void copy(State other) {
            parish = other.parish;
            said.copy(other.said);
            offered.copy(other.offered);
            looks.copy(other.looks);
            watches.copy(other.watches);
            truth = other.truth;
        }
    }

    /** Where a cock points in a MINUTE, in each WORLD of a set. */
    private static final class Aim {
        /** The WORLDS in which it points at each one. */
        private final long[] byWhom = new long[AIMS];
        /** The same by bearings: those of a bearing stand at the first one who has it. */
        private final long[] groups = new long[AIMS];

        void take(Talk talk, Parish parish, int cock, int minute, long worlds) {
            for (int i = 0; i < byWhom.length; i++) {
                byWhom[i] = 0;
            }
            long rest = worlds;
            for (int i = talk.size() - 1; i >= 0 && rest != 0; i--) {
                boolean isTime = talk.minute(i) + parish.late(cock) <= minute;
                long lied = isTime ? rest & talk.lies(i, parish.law(cock)) : 0;
                add(byWhom, talk.speaker(i), lied);
                rest &= ~lied;
            }
            add(byWhom, NOBODY, rest);
            gather(parish);
        }

        private void gather(Parish parish) {
            for (int i = 0; i < groups.length; i++) {
                groups[i] = 0;
            }
            for (int i = 0; i < byWhom.length; i++) {
                int first = 0;
                while (first < i && (!parish.isPerson(first) || parish.bearing(first) != parish.bearing(i))) {
                    first++;
                }
                add(groups, first, byWhom[i]);
            }
        }

        private static void add(long[] row, int i, long worlds) {
            if (i >= 0 && i < row.length) {
                row[i] |= worlds;
            }
        }

        long at(int i) {
            return i >= 0 && i < byWhom.length ? byWhom[i] : 0;
        }

        long group(int i) {
            return i >= 0 && i < groups.length ? groups[i] : 0;
        }

        long within(Parish parish, int from, int to) {
            long worlds = 0;
            for (int i = 0; i < byWhom.length; i++) {
                worlds |= isWithin(parish.bearing(i), from, to) ? byWhom[i] : 0;
            }
            return worlds;
        }

        /** The WORLDS that a look does not tell from this one. */
        long groupOf(int world) {
            for (long group : groups) {
                if (holds(group, world)) {
                    return group;
                }
            }
            return 0;
        }

        int bearings() {
            int bearings = 0;
            for (long group : groups) {
                bearings += group != 0 ? 1 : 0;
            }
            return bearings;
        }

        int largest() {
            int largest = 0;
            for (long group : groups) {
                largest = Math.max(largest, Long.bitCount(group));
            }
            return largest;
        }

        /** Whether a look tells, whatever it shows, if it is one of the WORLDS that are so. */
        boolean tells(long so) {
            for (long group : groups) {
                if (sureness(group, so) == 2) {
                    return false;
                }
            }
            return true;
        }
    }

    /** At whom a cock points by the TRUTH, in parts: each from a MINUTE on up to the next one's. */
    private static final class Course {
        private static final int MOST = MOST_SAYINGS + 1;

        private final int[] starts = new int[MOST];
        private final int[] whom = new int[MOST];
        private int size;

        void follow(State state, int cock) {
            size = 0;
            add(0, NONE);
            for (int i = 0; i < state.said.size(); i++) {
                int minute = state.said.minute(i) + state.parish.late(cock);
                int liar = state.said.lastLiar(state.parish, cock, minute, state.truth);
                if (liar != whom(size - 1)) {
                    add(minute, liar);
                }
            }
        }

        private void add(int start, int who) {
            if (size >= 0 && size < starts.length && size < whom.length) {
                starts[size] = start;
                whom[size] = who;
                size++;
            }
        }

        int whom(int part) {
            return part >= 0 && part < size && part < whom.length ? whom[part] : NONE;
        }

        private int start(int part) {
            return part >= 0 && part < size && part < starts.length ? starts[part] : LAST_MINUTE + 1;
        }

        /** How many MINUTES of a part lie in a span (none if the span ends ahead of its start). */
        int minutesOf(int part, int from, int to) {
            return Math.max(0, Math.min(start(part + 1) - 1, to) - Math.max(start(part), from) + 1);
        }

        /** The first part is no turn: it points at nobody from the start on. */
        int turns(int minute) {
            int turns = 0;
            for (int part = 1; part < size; part++) {
                turns += start(part) <= minute ? 1 : 0;
            }
            return turns;
        }

        int degrees(Parish parish, int minute) {
            int degrees = 0;
            for (int part = 1; part < size; part++) {
                int turn = shorterWay(parish.bearing(whom(part - 1)), parish.bearing(whom(part)));
                degrees += start(part) <= minute ? turn : 0;
            }
            return degrees;
        }

        int minutesAt(int who, int from, int to) {
            int minutes = 0;
            for (int part = 0; part < size; part++) {
                minutes += whom(part) == who ? minutesOf(part, from, to) : 0;
            }
            return minutes;
        }

        int longestPart(int from, int to) {
            int best = NONE;
            int most = 0;
            for (int part = 0; part < size; part++) {
                int minutes = whom(part) == NONE ? 0 : minutesOf(part, from, to);
                if (minutes > most) {
                    most = minutes;
                    best = part;
                }
            }
            return best;
        }

        int minutesUnlike(Course other, int from, int to) {
            int minutes = 0;
            for (int part = 0; part < other.size; part++) {
                int first = Math.max(from, other.start(part));
                int last = Math.min(to, other.start(part + 1) - 1);
                int alike = minutesAt(other.whom(part), first, last);
                minutes += Math.max(0, last - first + 1) - alike;
            }
            return minutes;
        }
    }

    /** The search for the MINUTES of a LOOKOUT. */
    private static final class Search {
        private static final int MOST_PICKED = 3;

        private final int[] minutes = new int[MOST_SAYINGS];
        private final long[] groups = new long[MOST_SAYINGS * AIMS];
        private final long[] before = new long[AIMS];
        private final int[] picked = new int[MOST_PICKED];
        private int size;
        private long asked;
        private long fact;

        /** Notes the MINUTES in which the cock turns in some of the WORLDS, and how a look then parts them. */
        void ask(Aim aim, State state, int cock, long worlds) {
            size = 0;
            asked = worlds;
            for (int i = 0; i < before.length; i++) {
                before[i] = i == NOBODY ? worlds : 0;
            }
            for (int i = 0; i < state.said.size(); i++) {
                int minute = state.said.minute(i) + state.parish.late(cock);
                if (minute <= LAST_MINUTE) {
                    aim.take(state.said, state.parish, cock, minute, worlds);
                    note(aim, minute);
                }
            }
        }

        private void note(Aim aim, int minute) {
            boolean turns = false;
            for (int i = 0; i < before.length; i++) {
                turns |= before[i] != aim.at(i);
                before[i] = aim.at(i);
            }
            if (!turns || size < 0 || size >= minutes.length) {
                return;
            }
            minutes[size] = minute;
            for (int i = 0; i < AIMS && size * AIMS + i < groups.length; i++) {
                groups[size * AIMS + i] = aim.group(i);
            }
            size++;
        }

        /** The fewest MINUTES that tell if it is one of the WORLDS that are so; NONE: no 3 of them do. */
        int fewestMinutes(long so) {
            fact = so;
            for (int most = 0; most <= MOST_PICKED; most++) {
                if (pick(0, 0, most)) {
                    return most;
                }
            }
            return NONE;
        }

        /** Tries the MINUTES growing, so the first that tell are the least ones; the level is 3 at most. */
        private boolean pick(int level, int from, int most) {
            if (level >= most || level >= picked.length) {
                return tell(0, most, asked);
            }
            for (int i = from; i < size; i++) {
                picked[level] = i;
                if (pick(level + 1, i + 1, most)) {
                    return true;
                }
            }
            return false;
        }

        /** Whether the looks from a level on tell it of these WORLDS; the level is 3 at most. */
        private boolean tell(int level, int most, long worlds) {
            if (sureness(worlds, fact) != 2) {
                return true;
            }
            if (level >= most || level >= picked.length) {
                return false;
            }
            for (int i = 0; i < AIMS; i++) {
                if (!tell(level + 1, most, worlds & groupAt(picked[level] * AIMS + i))) {
                    return false;
                }
            }
            return true;
        }

        private long groupAt(int i) {
            return i >= 0 && i < groups.length ? groups[i] : 0;
        }

        int minute(int i) {
            int minute = i >= 0 && i < picked.length ? picked[i] : NONE;
            return minute >= 0 && minute < minutes.length ? minutes[minute] : NONE;
        }
    }
}
