import java.util.Arrays;
import java.util.NoSuchElementException;

/**
 * A land whose law takes no notice of what is done between first light and the first chimney.
 * The words in capitals are the document's. All rows are made with the object and used again,
 * so that no call makes anything.
 */
public final class FirstChimney {
    public static final int NONE = -1;

    private static final int MAX_SIGNS = 1000;
    private static final int MAX_LETTERS = 8;
    private static final int MAX_DIGITS = 4;
    private static final int MAX_PLACES = 7;
    private static final int MAX_PATHS = 10;
    private static final int MAX_PERSONS = 5;
    private static final int MAX_THINGS = 6;
    private static final int MAX_WAKES = 30;
    private static final int MAX_WORTH = 30;
    private static final int MAX_SMOKE = 60;
    private static final int SMOKE_UNTOLD = 30;
    private static final int MAX_DEPTH = 5;
    /** Each of five levels of an E has four operators that wait, five values and one ( or not at the most. */
    private static final int MAX_WAITING = 64;
    private static final int MAX_LINES = 40;
    private static final int MAX_UNDONE = 16;
    private static final int MAX_MARKS = 4;
    private static final int MAX_SEEN = 8;
    private static final int MAX_MINUTES = 99;
    private static final int MAX_SEED = 9999;
    private static final int MAX_CHANCE = 6;
    private static final int MAX_ODDS = 10;
    private static final int MAX_STAKE = 9;

    /** More paths or minutes than any answer has: it can't be. */
    private static final int NEVER = 1000;

    private static final int FAULT_TOKEN = 1;
    private static final int FAULT_UNKNOWN = 2;
    private static final int FAULT_TWICE = 3;
    private static final int FAULT_NUMBER = 4;
    private static final int FAULT_TOO_MANY = 5;

    /** Kinds of TOKENS; a sign's kind is the sign, that of a word of the language KEY + its cell. */
    private static final int END = 1;
    private static final int WRONG = 2;
    private static final int NUMBER = 3;
    private static final int NAME = 4;
    private static final int KEY = 128;

    private static final int KEY_PLACE = KEY;
    private static final int KEY_PATH = KEY + 1;
    private static final int KEY_PERSON = KEY + 2;
    private static final int KEY_IN = KEY + 3;
    private static final int KEY_WAKES = KEY + 4;
    private static final int KEY_THING = KEY + 5;
    private static final int KEY_WORTH = KEY + 6;
    private static final int KEY_OF = KEY + 7;
    private static final int KEY_SMOKE = KEY + 8;
    private static final int KEY_BINDS = KEY + 9;
    private static final int KEY_MINUTE = KEY + 10;
    private static final int KEY_WALK = KEY + 11;
    private static final int KEY_GIVE = KEY + 12;
    private static final int KEY_VOW = KEY + 13;
    private static final int KEY_PLAIN = KEY + 14;
    private static final int KEY_MUTE = KEY + 17;
    private static final int KEY_NOT = KEY + 18;
    private static final int KEY_AND = KEY + 19;
    private static final int KEY_OR = KEY + 20;

    /** Words in cells of eight signs: those that no NAME is, and the facts of a law. */
    private static final String KEYWORDS = "place   path    person  in      wakes   thing   worth   of      smoke   binds   minute  walk    give    vow     plain   bench   slow    mute    not     and     or      ";
    private static final String FACTS = "clock   price   crowd   judge   ";
    private static final String SIGNS = "()<=+-*;";

    /** A fact in a Law's code is -(FACT + its cell), an operator is - its TOKEN's kind. */
    private static final int FACT = 256;

    private static final int BENCH = 1;
    private static final int SLOW = 2;
    private static final int MUTE = 3;

    private final Tape tape = new Tape();
    private final LandReader landReader = new LandReader();
    private final Ways ways = new Ways();
    private final State now = new State();
    private final State trial = new State();
    private final Past past = new Past();
    private final Seen seen = new Seen();
    private Land land = new Land();
    private Land spareLand = new Land();
    private Script script = new Script();
    private Script spareScript = new Script();
    private long drawn;

    public FirstChimney() {
    }

    public int feed(long a, long b, long c) {
        tape.put(a);
        tape.put(b);
        tape.put(c);
        return tape.length;
    }

    public int land() {
        int fault = landReader.read(tape, spareLand);
        tape.clear();
        if (fault != 0) {
            return fault;
        }
        Land told = spareLand;
        spareLand = land;
        land = told;
        ways.measure(land);
        now.begin(land);
        script.lines = 0;
        seen.number = 0;
        past.forget();
        return 0;
    }

    public int morning() {
        int fault = spareScript.read(tape, land);
        tape.clear();
        if (fault != 0) {
            return fault;
        }
        Script told = spareScript;
        spareScript = script;
        script = told;
        return 0;
    }

    public int place(int place, int what) {
        if (!land.hasPlace(place)) {
            return NONE;
        }
        switch (what) {
            case 0: return land.paths[place];
            case 1: return now.bitsAt(land, place);
            case 2: return now.bitsAt(land, place) & land.awakeBits(now.minute);
            default: return NONE;
        }
    }

    public int person(int person, int what) {
        if (!land.hasPerson(person)) {
            return NONE;
        }
        switch (what) {
            case 0: return land.kinds[person];
            case 1: return land.houses[person];
            case 2: return now.where[person];
            case 3: return land.isAwake(person, now.minute) ? 1 : 0;
            case 4: return now.isReady(land, person) ? 1 : 0;
            case 5: return thingsOf(now.holders, person);
            default: return NONE;
        }
    }

    public int thing(int thing, int what) {
        if (!land.hasThing(thing)) {
            return NONE;
        }
        switch (what) {
            case 0: return land.worths[thing];
            case 1: return now.holders[thing];
            case 2: return now.owners[thing];
            default: return NONE;
        }
    }

    public boolean walk(int person, int place) {
        if (!now.canWalk(land, person, place)) {
            return false;
        }
        past.keep(now);
        now.goTo(land, person, place);
        return true;
    }

    public int give(int thing, int person) {
        if (!now.canGive(land, thing, person)) {
            return NONE;
        }
        past.keep(now);
        return now.handOver(land, thing, person) ? 1 : 0;
    }

    public int vow(int person, int other) {
        if (!now.canVow(land, person, other)) {
            return NONE;
        }
        past.keep(now);
        return now.pledge(land, person, other) ? 1 : 0;
    }

    public boolean minute() {
        past.keep(now);
        return now.pass(land);
    }

    public boolean undo() {
        return past.bringBack(now);
    }

    public int judged(int what) {
        if (what < 0 || what > 2) {
            return -2;
        }
        trial.begin(land);
        int impossible = NONE;
        int binding = NONE;
        for (int line = 0; line < script.lines; line++) {
            int came = script.play(line, land, trial);
            if (came == NONE && impossible == NONE) {
                impossible = line;
            }
            if (came == 1 && binding == NONE) {
                binding = line;
            }
        }
        switch (what) {
            case 0: return impossible;
            case 1: return binding;
            default: return movedThings(trial);
        }
    }

    public int soon(int person, int place) {
        if (!land.hasPerson(person) || !land.hasPlace(place)) {
            return NONE;
        }
        return orNone(minutesTo(person, place));
    }

    public int meet(int person, int other) {
        if (!land.hasPerson(person) || !land.hasPerson(other) || person == other) {
            return NONE;
        }
        int least = NEVER;
        for (int place = 0; place < land.places; place++) {
            least = Math.min(least, Math.max(minutesTo(person, place), minutesTo(other, place)));
        }
        return orNone(least);
    }

    public int all(int what) {
        if (land.persons == 0 || what < 0 || what > 1) {
            return NONE;
        }
        int where = NONE;
        int least = NEVER;
        for (int place = 0; place < land.places; place++) {
            int minutes = minutesOfAllTo(place);
            if (minutes < least) {
                least = minutes;
                where = place;
            }
        }
        return what == 0 ? where : orNone(least);
    }

    public int tour(int person) {
        if (!land.hasPerson(person)) {
            return NONE;
        }
        int paths = ways.pathsOfTour(land, now.where[person]);
        return orNone(now.minutesOver(land, person, paths));
    }

    public boolean intime(int person, int place) {
        if (!land.hasPerson(person) || !land.hasPlace(place)) {
            return false;
        }
        int minutes = minutesTo(person, place);
        return minutes <= MAX_MINUTES && now.minute + minutes < land.smoke;
    }

    public int back() {
        return now.strayThings(land);
    }

    public int could(int thing) {
        if (!land.hasThing(thing)) {
            return NONE;
        }
        int bits = 0;
        for (int person = 0; person < land.persons; person++) {
            if (now.canGive(land, thing, person)) {
                bits |= 1 << person;
            }
        }
        return bits;
    }

    public boolean would(int thing, int person) {
        return isGift(thing, person) && now.giftBinds(land, thing, person, now.minute);
    }

    public int when(int thing, int person) {
        if (!isGift(thing, person)) {
            return NONE;
        }
        for (int clock = now.minute; clock < land.smoke; clock++) {
            if (now.giftBinds(land, thing, person, clock)) {
                return clock;
            }
        }
        return NONE;
    }

    public int vows(int person, boolean right) {
        if (!land.hasPerson(person)) {
            return NONE;
        }
        return right ? now.rightVows[person] : now.vowed[person];
    }

    public int sees(int person) {
        if (!land.hasPerson(person)) {
            return NONE;
        }
        int from = now.where[person];
        int bits = 0;
        for (int place = 0; place < land.places; place++) {
            if (place == from || isIn(land.paths[from], place)) {
                bits |= now.bitsAt(land, place);
            }
        }
        return bits & ~(1 << person);
    }

    public int heard(int person) {
        return land.hasPerson(person) ? now.news[person] : NONE;
    }

    public int news() {
        trial.copy(now);
        for (int minutes = 0; minutes <= MAX_MINUTES; minutes++) {
            if (trial.newsOfAll(land) == land.persons * land.persons) {
                return minutes;
            }
            trial.pass(land);
        }
        return NONE;
    }

    public int alone() {
        int awake = land.awakeBits(now.minute);
        int bits = 0;
        for (int place = 0; place < land.places; place++) {
            int there = now.bitsAt(land, place) & awake;
            if (Integer.bitCount(there) == 1) {
                bits |= there;
            }
        }
        return bits;
    }

    public int reach(int place) {
        return land.hasPlace(place) ? ways.spread(land, place, 0) : NONE;
    }

    public int far(int place, int other) {
        if (!land.hasPlace(place) || !land.hasPlace(other)) {
            return NONE;
        }
        return orNone(ways.paths[place][other]);
    }

    public int cuts() {
        int bits = 0;
        for (int place = 0; place < land.places; place++) {
            if (ways.isCut(land, place)) {
                bits |= 1 << place;
            }
        }
        return bits;
    }

    public int hub() {
        int best = NONE;
        int least = NEVER;
        for (int place = 0; place < land.places; place++) {
            int farthest = ways.farthestFrom(land, place);
            if (farthest < least) {
                least = farthest;
                best = place;
            }
        }
        return best;
    }

    public int links(int place) {
        return land.hasPlace(place) ? Integer.bitCount(land.paths[place]) : NONE;
    }

    public boolean see(int place, int minutes, boolean can) {
        return land.hasPlace(place) && isFrom(0, minutes, MAX_MINUTES) && seen.add(place, minutes, can);
    }

    public int who() {
        int bits = 0;
        for (int person = 0; person < land.persons; person++) {
            if (fitsSeen(person)) {
                bits |= 1 << person;
            }
        }
        return bits;
    }

    public int ask() {
        int suspects = who();
        int best = NONE;
        int least = Integer.bitCount(suspects);
        for (int minutes = 0; minutes <= MAX_MINUTES; minutes++) {
            for (int place = 0; place < land.places; place++) {
                int left = leftAtWorst(suspects, place, minutes);
                if (left < least) {
                    least = left;
                    best = 8 * minutes + place;
                }
            }
        }
        return best;
    }

    public int wide() {
        int best = NONE;
        int most = 0;
        for (int place = 0; place < land.places; place++) {
            for (int other = place + 1; other < land.places; other++) {
                int apart = ways.paths[place][other];
                if (apart > most && apart < NEVER) {
                    most = apart;
                    best = 8 * place + other;
                }
            }
        }
        return best;
    }

    public int has(int person, boolean right) {
        return land.hasPerson(person) ? worthOf(person, right) : NONE;
    }

    public int sleeps(int person) {
        return land.hasPerson(person) ? land.sleepOf(person, now.minute) : NONE;
    }

    public int rich(boolean right) {
        int best = NONE;
        int most = -1;
        for (int person = 0; person < land.persons; person++) {
            int worth = worthOf(person, right);
            if (worth > most) {
                most = worth;
                best = person;
            }
        }
        return best;
    }

    public int chance(int minutes, int odds) {
        if (!isFrom(1, minutes, MAX_CHANCE) || !isFrom(0, odds, MAX_ODDS)) {
            return NONE;
        }
        int ahead = Math.min(minutes, land.smoke - now.minute);
        int millionths = 1;
        // Six factors of ten at the most make a million, so that nothing is ever to be cut.
        for (int factor = 0; factor < MAX_CHANCE; factor++) {
            millionths *= factor < ahead ? MAX_ODDS - odds : MAX_ODDS;
        }
        return millionths;
    }

    public int rests(int both, int loses, int gains, int what) throws NoSuchElementException {
        if (!isFrom(0, both, MAX_STAKE) || !isFrom(0, loses, MAX_STAKE) || !isFrom(0, gains, MAX_STAKE)) {
            throw new NoSuchElementException("no such kindling");
        }
        int resting = 0;
        for (int choices = 0; choices < 4; choices++) {
            if (isRest(both, loses, gains, choices)) {
                if (resting == what) {
                    return choices;
                }
                resting++;
            }
        }
        if (what != NONE) {
            throw new NoSuchElementException("no such rest");
        }
        return resting;
    }

    public int mornings(int seed, int minutes, int what) {
        if (!isFrom(0, seed, MAX_SEED) || !isFrom(1, minutes, MAX_MINUTES) || !isFrom(0, what, 2)) {
            return NONE;
        }
        drawn = seed;
        trial.copy(now);
        int kindnesses = 0;
        for (int minute = 0; minute < minutes; minute++) {
            if (land.persons > 0 && playDrawn()) {
                kindnesses++;
            }
            trial.pass(land);
        }
        switch (what) {
            case 0: return kindnesses;
            case 1: return trial.strayThings(land);
            default: return trial.newsOfAll(land);
        }
    }

    public boolean mark(int mark, boolean back) {
        if (!isFrom(0, mark, MAX_MARKS - 1)) {
            return false;
        }
        if (back) {
            return past.goBack(mark, now, seen);
        }
        past.lay(mark, now, seen);
        return true;
    }

    public int count(int what) {
        switch (what) {
            case 0: return land.places;
            case 1: return land.pathsTold;
            case 2: return land.persons;
            case 3: return land.things;
            case 4: return land.smoke;
            case 5: return now.morning;
            case 6: return now.minute;
            case 7: return land.awakeBits(now.minute);
            case 8: return pairsIn(now.vowed);
            case 9: return pairsIn(now.rightVows);
            case 10: return script.lines;
            case 11: return seen.number;
            case 12: return past.kept;
            case 13: return tape.length;
            default: return NONE;
        }
    }

    private static boolean isFrom(int least, int number, int most) {
        return number >= least && number <= most;
    }

    private static boolean isIn(int bits, int number) {
        return (bits >> number & 1) == 1;
    }

    private static int orNone(int number) {
        return number <= MAX_MINUTES ? number : NONE;
    }

    /** Each vow stands in the rows of both who vowed. */
    private static int pairsIn(int[] rows) {
        int both = 0;
        for (int person = 0; person < MAX_PERSONS; person++) {
            both += Integer.bitCount(rows[person]);
        }
        return both / 2;
    }

    private int thingsOf(int[] persons, int person) {
        int bits = 0;
        for (int thing = 0; thing < land.things; thing++) {
            if (persons[thing] == person) {
                bits |= 1 << thing;
            }
        }
        return bits;
    }

    private int worthOf(int person, boolean right) {
        int bits = thingsOf(right ? now.owners : now.holders, person);
        int worth = 0;
        for (int thing = 0; thing < land.things; thing++) {
            if (isIn(bits, thing)) {
                worth += land.worths[thing];
            }
        }
        return worth;
    }

    private int movedThings(State last) {
        int moved = 0;
        for (int thing = 0; thing < land.things; thing++) {
            if (last.holders[thing] != land.givers[thing]) {
                moved++;
            }
        }
        return moved;
    }

    private int minutesTo(int person, int place) {
        return now.minutesOver(land, person, ways.paths[now.where[person]][place]);
    }

    private int minutesOfAllTo(int place) {
        int most = 0;
        for (int person = 0; person < land.persons; person++) {
            most = Math.max(most, minutesTo(person, place));
        }
        return most;
    }

    private boolean isGift(int thing, int person) {
        return land.hasThing(thing) && land.hasPerson(person) && now.holders[thing] != person;
    }

    private boolean fitsSeen(int person) {
        for (int one = 0; one < seen.number; one++) {
            boolean can = minutesTo(person, seen.places[one]) <= seen.minutes[one];
            if (can != seen.can[one]) {
                return false;
            }
        }
        return true;
    }

    private int leftAtWorst(int suspects, int place, int minutes) {
        int can = 0;
        for (int person = 0; person < land.persons; person++) {
            if (isIn(suspects, person) && minutesTo(person, place) <= minutes) {
                can++;
            }
        }
        return Math.max(can, Integer.bitCount(suspects) - can);
    }

    private static boolean isRest(int both, int loses, int gains, int choices) {
        int first = choices / 2;
        int other = choices % 2;
        return gets(both, loses, gains, first, other) >= gets(both, loses, gains, 1 - first, other)
                && gets(both, loses, gains, other, first) >= gets(both, loses, gains, 1 - other, first);
    }

    private static int gets(int both, int loses, int gains, int own, int others) {
        if (own == 1) {
            return others == 1 ? -both : -loses;
        }
        return others == 1 ? gains : 0;
    }

    private int drawBelow(int bound) {
        drawn = (drawn * 1103515245L + 12345L) % 2147483648L;
        return bound > 0 ? (int) (drawn / 65536L % bound) : 0;
    }

    /** What one minute's draws bring, on the trial: whether it was a GIFT or a VOW. */
    private boolean playDrawn() {
        int person = drawBelow(land.persons);
        int place = drawBelow(land.places);
        int deed = drawBelow(5);
        if (deed <= 1) {
            if (trial.canWalk(land, person, place)) {
                trial.goTo(land, person, place);
            }
            return false;
        }
        if (deed == 2 && land.things > 0) {
            int thing = drawBelow(land.things);
            if (trial.canGive(land, thing, person)) {
                trial.handOver(land, thing, person);
                return true;
            }
        }
        if (deed == 3) {
            int other = drawBelow(land.persons);
            if (trial.canVow(land, person, other)) {
                trial.pledge(land, person, other);
                return true;
            }
        }
        return false;
    }

    /** The TAPE, and the TOKEN of it that is at hand while it is read. */
    private static final class Tape {
        final char[] signs = new char[MAX_SIGNS];
        int length;
        int start;
        int end;
        int kind;
        int number;
        long word;
        int fault;

        void put(long eight) {
            for (int shift = 56; shift >= 0; shift -= 8) {
                int sign = (int) (eight >>> shift) & 255;
                if ((sign == 10 || isFrom(32, sign, 126)) && length < MAX_SIGNS) {
                    signs[length] = (char) sign;
                    length++;
                }
            }
        }

        void clear() {
            length = 0;
        }

        void open() {
            end = 0;
            fault = 0;
            next();
        }

        void next() {
            while (end < length && (signs[end] == 10 || signs[end] == ' ')) {
                end++;
            }
            start = end;
            if (start >= length) {
                kind = END;
            } else if (isFrom('a', signs[start], 'z')) {
                readWord();
            } else if (isFrom('0', signs[start], '9')) {
                readNumber();
            } else {
                kind = SIGNS.indexOf(signs[start]) >= 0 ? signs[start] : WRONG;
                end++;
            }
        }

        private void readWord() {
            word = 0;
            while (end < length && isFrom('a', signs[end], 'z')) {
                word = word * 32 + (signs[end] - 'a' + 1);
                end++;
            }
            if (end - start > MAX_LETTERS) {
                kind = WRONG;
                return;
            }
            int cell = cellIn(KEYWORDS);
            kind = cell == NONE ? NAME : KEY + cell;
        }

        private void readNumber() {
            number = 0;
            while (end < length && isFrom('0', signs[end], '9')) {
                number = number * 10 + (signs[end] - '0');
                end++;
            }
            kind = end - start > MAX_DIGITS ? WRONG : NUMBER;
        }

        /** In which cell of a list the WORD at hand is; NONE: in none. */
        int cellIn(String list) {
            for (int cell = 0; (cell + 1) * MAX_LETTERS <= list.length(); cell++) {
                int same = 0;
                for (int letter = 0; letter < MAX_LETTERS; letter++) {
                    int at = start + letter;
                    char sign = at < end && at < length ? signs[at] : ' ';
                    if (list.charAt(cell * MAX_LETTERS + letter) == sign) {
                        same++;
                    }
                }
                if (same == MAX_LETTERS) {
                    return cell;
                }
            }
            return NONE;
        }

        boolean fail(int what) {
            fault = what + 16 * start;
            return false;
        }

        boolean take(int wanted) {
            if (kind != wanted) {
                return fail(FAULT_TOKEN);
            }
            next();
            return true;
        }

        /** Whether the TOKEN at hand is a NUMBER as told. */
        boolean isNumber(int least, int most) {
            if (kind != NUMBER) {
                return fail(FAULT_TOKEN);
            }
            return isFrom(least, number, most) || fail(FAULT_NUMBER);
        }

        /** Which of the first names the NAME at hand is; NONE: it is wrong, and the fault is told. */
        int known(long[] names, int told) {
            if (kind != NAME) {
                fail(FAULT_TOKEN);
                return NONE;
            }
            int found = Land.indexOf(names, told, word);
            if (found == NONE) {
                fail(FAULT_UNKNOWN);
            }
            return found;
        }
    }

    /** A LAND as it is told. */
    private static final class Land {
        final long[] placeNames = new long[MAX_PLACES];
        final long[] personNames = new long[MAX_PERSONS];
        final long[] thingNames = new long[MAX_THINGS];
        final int[] paths = new int[MAX_PLACES];
        final int[] kinds = new int[MAX_PERSONS];
        final int[] houses = new int[MAX_PERSONS];
        final int[] wakes = new int[MAX_PERSONS];
        final int[] worths = new int[MAX_THINGS];
        final int[] givers = new int[MAX_THINGS];
        final Law law = new Law();
        int places;
        int pathsTold;
        int persons;
        int things;
        int smoke = SMOKE_UNTOLD;

        void clear() {
            Arrays.fill(paths, 0);
            law.length = 0;
            places = 0;
            pathsTold = 0;
            persons = 0;
            things = 0;
            smoke = SMOKE_UNTOLD;
        }

        static int indexOf(long[] names, int number, long name) {
            for (int index = 0; index < number && index < names.length; index++) {
                if (names[index] == name) {
                    return index;
                }
            }
            return NONE;
        }

        boolean isTold(long name) {
            return indexOf(placeNames, places, name) != NONE
                    || indexOf(personNames, persons, name) != NONE
                    || indexOf(thingNames, things, name) != NONE;
        }

        boolean hasPlace(int place) {
            return place >= 0 && place < places;
        }

        boolean hasPerson(int person) {
            return person >= 0 && person < persons;
        }

        boolean hasThing(int thing) {
            return thing >= 0 && thing < things;
        }

        boolean isAwake(int person, int minute) {
            return minute >= wakes[person];
        }

        int sleepOf(int person, int minute) {
            return Math.max(0, wakes[person] - minute);
        }

        int awakeBits(int minute) {
            int bits = 0;
            for (int person = 0; person < persons; person++) {
                if (isAwake(person, minute)) {
                    bits |= 1 << person;
                }
            }
            return bits;
        }
    }

    /** Reads the TAPE as a LAND. */
    private static final class LandReader {
        private final LawReader lawReader = new LawReader();
        private boolean smokeTold;
        private boolean bindsTold;

        /** 0, or the FAULT, and then the LAND is of no use. */
        int read(Tape tape, Land land) {
            land.clear();
            smokeTold = false;
            bindsTold = false;
            tape.open();
            for (int told = 0; told < MAX_SIGNS && tape.kind != END; told++) {
                boolean fits = false;
                switch (tape.kind) {
                    case KEY_PLACE: fits = readPlace(tape, land); break;
                    case KEY_PATH: fits = readPath(tape, land); break;
                    case KEY_PERSON: fits = readPerson(tape, land); break;
                    case KEY_THING: fits = readThing(tape, land); break;
                    case KEY_SMOKE: fits = readSmoke(tape, land); break;
                    case KEY_BINDS: fits = readBinds(tape, land); break;
                    default: tape.fail(FAULT_TOKEN);
                }
                if (!fits || !tape.take(';')) {
                    return tape.fault;
                }
            }
            return 0;
        }

        private static boolean isNewName(Tape tape, Land land) {
            if (tape.kind != NAME) {
                return tape.fail(FAULT_TOKEN);
            }
            return !land.isTold(tape.word) || tape.fail(FAULT_TWICE);
        }

        private boolean readPlace(Tape tape, Land land) {
            if (land.places >= MAX_PLACES) {
                return tape.fail(FAULT_TOO_MANY);
            }
            tape.next();
            if (!isNewName(tape, land)) {
                return false;
            }
            land.placeNames[land.places] = tape.word;
            land.places++;
            tape.next();
            return true;
        }

        private boolean readPath(Tape tape, Land land) {
            if (land.pathsTold >= MAX_PATHS) {
                return tape.fail(FAULT_TOO_MANY);
            }
            tape.next();
            int one = tape.known(land.placeNames, land.places);
            if (one == NONE) {
                return false;
            }
            tape.next();
            int other = tape.known(land.placeNames, land.places);
            if (other == NONE) {
                return false;
            }
            if (one == other || isIn(land.paths[one], other)) {
                return tape.fail(FAULT_TWICE);
            }
            land.paths[one] |= 1 << other;
            land.paths[other] |= 1 << one;
            land.pathsTold++;
            tape.next();
            return true;
        }

        private boolean readPerson(Tape tape, Land land) {
            int person = land.persons;
            if (person >= MAX_PERSONS) {
                return tape.fail(FAULT_TOO_MANY);
            }
            tape.next();
            if (!isNewName(tape, land)) {
                return false;
            }
            land.personNames[person] = tape.word;
            tape.next();
            if (!isFrom(KEY_PLAIN, tape.kind, KEY_MUTE)) {
                return tape.fail(FAULT_TOKEN);
            }
            land.kinds[person] = tape.kind - KEY_PLAIN;
            tape.next();
            if (!tape.take(KEY_IN)) {
                return false;
            }
            int house = tape.known(land.placeNames, land.places);
            if (house == NONE) {
                return false;
            }
            land.houses[person] = house;
            tape.next();
            if (!tape.take(KEY_WAKES) || !tape.isNumber(0, MAX_WAKES)) {
                return false;
            }
            land.wakes[person] = tape.number;
            land.persons++;
            tape.next();
            return true;
        }

        private boolean readThing(Tape tape, Land land) {
            int thing = land.things;
            if (thing >= MAX_THINGS) {
                return tape.fail(FAULT_TOO_MANY);
            }
            tape.next();
            if (!isNewName(tape, land)) {
                return false;
            }
            land.thingNames[thing] = tape.word;
            tape.next();
            if (!tape.take(KEY_WORTH) || !tape.isNumber(0, MAX_WORTH)) {
                return false;
            }
            land.worths[thing] = tape.number;
            tape.next();
            if (!tape.take(KEY_OF)) {
                return false;
            }
            int giver = tape.known(land.personNames, land.persons);
            if (giver == NONE) {
                return false;
            }
            land.givers[thing] = giver;
            land.things++;
            tape.next();
            return true;
        }

        private boolean readSmoke(Tape tape, Land land) {
            if (smokeTold) {
                return tape.fail(FAULT_TWICE);
            }
            smokeTold = true;
            tape.next();
            if (!tape.isNumber(1, MAX_SMOKE)) {
                return false;
            }
            land.smoke = tape.number;
            tape.next();
            return true;
        }

        private boolean readBinds(Tape tape, Land land) {
            if (bindsTold) {
                return tape.fail(FAULT_TWICE);
            }
            bindsTold = true;
            return lawReader.read(tape, land.law);
        }
    }

    /** The E of binds: operands ahead of their operators, so that one row of values works it out. */
    private static final class Law {
        final int[] code = new int[MAX_SIGNS];
        private final int[] values = new int[MAX_WAITING];
        int length;

        void write(int one) {
            if (length < MAX_SIGNS) {
                code[length] = one;
                length++;
            }
        }

        int valueAt(int clock, int price, int crowd, int judge) {
            int top = 0;
            for (int at = 0; at < length; at++) {
                int one = code[at];
                if (one == -KEY_NOT) {
                    if (top >= 1) {
                        values[top - 1] = values[top - 1] == 0 ? 1 : 0;
                    }
                } else if (one >= 0 || one <= -FACT) {
                    if (top < MAX_WAITING) {
                        values[top] = operand(one, clock, price, crowd, judge);
                        top++;
                    }
                } else if (top >= 2) {
                    top--;
                    values[top - 1] = joined(one, values[top - 1], values[top]);
                }
            }
            return top >= 1 ? values[0] : 0;
        }

        private static int operand(int one, int clock, int price, int crowd, int judge) {
            switch (one) {
                case -FACT: return clock;
                case -FACT - 1: return price;
                case -FACT - 2: return crowd;
                case -FACT - 3: return judge;
                default: return one;
            }
        }

        private static int joined(int one, int left, int right) {
            switch (one) {
                case -'*': return left * right;
                case -'+': return left + right;
                case -'-': return left - right;
                case -'<': return left < right ? 1 : 0;
                case -'=': return left == right ? 1 : 0;
                case -KEY_AND: return left != 0 && right != 0 ? 1 : 0;
                default: return left != 0 || right != 0 ? 1 : 0;
            }
        }
    }

    /** Reads an E, without recursion: what waits for its right side stands in a row. */
    private static final class LawReader {
        private static final int RANK_JOIN = 1;
        private static final int RANK_TEST = 2;
        private static final int RANK_SUM = 3;
        private static final int RANK_PRODUCT = 4;

        private final int[] waiting = new int[MAX_WAITING];
        private int top;
        private int depth;
        private boolean partDue;

        /** Reads from the word ahead of the E up to the ; behind it. */
        boolean read(Tape tape, Law law) {
            top = 0;
            depth = 0;
            partDue = true;
            for (int tokens = 0; tokens < MAX_SIGNS; tokens++) {
                tape.next();
                if (!partDue && depth == 0 && tape.kind == ';') {
                    writeDown(law, RANK_JOIN);
                    return true;
                }
                if (partDue ? !readPart(tape, law) : !readBehind(tape, law)) {
                    return false;
                }
            }
            return tape.fail(FAULT_TOKEN);
        }

        private boolean readPart(Tape tape, Law law) {
            int fact = tape.kind == NAME ? tape.cellIn(FACTS) : NONE;
            boolean opens = tape.kind == KEY_NOT || tape.kind == '(';
            if (!opens && fact == NONE && tape.kind != NUMBER) {
                return tape.fail(FAULT_TOKEN);
            }
            if (depth >= MAX_DEPTH) {
                return tape.fail(FAULT_TOO_MANY);
            }
            if (opens) {
                await(tape.kind);
                depth++;
                return true;
            }
            law.write(fact == NONE ? tape.number : -FACT - fact);
            closeNots(law);
            partDue = false;
            return true;
        }

        private boolean readBehind(Tape tape, Law law) {
            boolean closes = tape.kind == ')' && depth > 0;
            int rank = closes ? RANK_JOIN : rankOf(tape.kind);
            if (rank == 0) {
                return tape.fail(FAULT_TOKEN);
            }
            // A TEST has one < or = at the most: one that waits still is of this very TEST.
            writeDown(law, rank == RANK_TEST ? RANK_SUM : rank);
            if (rank == RANK_TEST && top > 0 && rankOf(waiting[top - 1]) == RANK_TEST) {
                return tape.fail(FAULT_TOKEN);
            }
            if (closes) {
                top = Math.max(0, top - 1);
                depth--;
                closeNots(law);
                return true;
            }
            await(tape.kind);
            partDue = true;
            return true;
        }

        private void closeNots(Law law) {
            for (; top > 0 && waiting[top - 1] == KEY_NOT; top--) {
                law.write(-KEY_NOT);
                depth--;
            }
        }

        private void await(int kind) {
            if (top < MAX_WAITING) {
                waiting[top] = kind;
                top++;
            }
        }

        private void writeDown(Law law, int rank) {
            for (; top > 0 && rankOf(waiting[top - 1]) >= rank; top--) {
                law.write(-waiting[top - 1]);
            }
        }

        private static int rankOf(int kind) {
            switch (kind) {
                case KEY_AND:
                case KEY_OR: return RANK_JOIN;
                case '<':
                case '=': return RANK_TEST;
                case '+':
                case '-': return RANK_SUM;
                case '*': return RANK_PRODUCT;
                default: return 0;
            }
        }
    }

    /** A MORNING as it is told. */
    private static final class Script {
        private final int[] deeds = new int[MAX_LINES];
        private final int[] ones = new int[MAX_LINES];
        private final int[] others = new int[MAX_LINES];
        int lines;

        /** 0, or the FAULT, and then the MORNING is of no use. */
        int read(Tape tape, Land land) {
            lines = 0;
            tape.open();
            for (int told = 0; told < MAX_SIGNS && tape.kind != END; told++) {
                if (!readLine(tape, land) || !tape.take(';')) {
                    return tape.fault;
                }
            }
            return 0;
        }

        private boolean readLine(Tape tape, Land land) {
            int deed = tape.kind;
            if (!isFrom(KEY_MINUTE, deed, KEY_VOW)) {
                return tape.fail(FAULT_TOKEN);
            }
            if (lines >= MAX_LINES) {
                return tape.fail(FAULT_TOO_MANY);
            }
            deeds[lines] = deed;
            tape.next();
            if (deed != KEY_MINUTE && !readNames(tape, land, deed)) {
                return false;
            }
            lines++;
            return true;
        }

        private boolean readNames(Tape tape, Land land, int deed) {
            int one = deed == KEY_GIVE ? tape.known(land.thingNames, land.things)
                    : tape.known(land.personNames, land.persons);
            if (one == NONE) {
                return false;
            }
            tape.next();
            int other = deed == KEY_WALK ? tape.known(land.placeNames, land.places)
                    : tape.known(land.personNames, land.persons);
            if (other == NONE) {
                return false;
            }
            if (deed == KEY_VOW && one == other) {
                return tape.fail(FAULT_TWICE);
            }
            ones[lines] = one;
            others[lines] = other;
            tape.next();
            return true;
        }

        /** Does a line: 1 it BINDS, 0 it does not, NONE: it can't be. */
        int play(int line, Land land, State state) {
            int one = ones[line];
            int other = others[line];
            switch (deeds[line]) {
                case KEY_WALK:
                    if (!state.canWalk(land, one, other)) {
                        return NONE;
                    }
                    state.goTo(land, one, other);
                    return 0;
                case KEY_GIVE:
                    if (!state.canGive(land, one, other)) {
                        return NONE;
                    }
                    return state.handOver(land, one, other) ? 1 : 0;
                case KEY_VOW:
                    if (!state.canVow(land, one, other)) {
                        return NONE;
                    }
                    return state.pledge(land, one, other) ? 1 : 0;
                default:
                    state.pass(land);
                    return 0;
            }
        }
    }

    /** All that UNDO brings back. */
    private static final class State {
        int morning;
        int minute;
        final int[] where = new int[MAX_PERSONS];
        /** For how many minutes, this one too, one has ACTED. */
        final int[] acted = new int[MAX_PERSONS];
        final int[] news = new int[MAX_PERSONS];
        final int[] vowed = new int[MAX_PERSONS];
        final int[] rightVows = new int[MAX_PERSONS];
        final int[] holders = new int[MAX_THINGS];
        final int[] owners = new int[MAX_THINGS];

        void begin(Land land) {
            morning = 0;
            minute = 0;
            for (int person = 0; person < MAX_PERSONS; person++) {
                where[person] = land.houses[person];
                acted[person] = 0;
                news[person] = 1 << person;
                vowed[person] = 0;
                rightVows[person] = 0;
            }
            for (int thing = 0; thing < MAX_THINGS; thing++) {
                holders[thing] = land.givers[thing];
                owners[thing] = land.givers[thing];
            }
        }

        void copy(State from) {
            morning = from.morning;
            minute = from.minute;
            System.arraycopy(from.where, 0, where, 0, MAX_PERSONS);
            System.arraycopy(from.acted, 0, acted, 0, MAX_PERSONS);
            System.arraycopy(from.news, 0, news, 0, MAX_PERSONS);
            System.arraycopy(from.vowed, 0, vowed, 0, MAX_PERSONS);
            System.arraycopy(from.rightVows, 0, rightVows, 0, MAX_PERSONS);
            System.arraycopy(from.holders, 0, holders, 0, MAX_THINGS);
            System.arraycopy(from.owners, 0, owners, 0, MAX_THINGS);
        }

        int bitsAt(Land land, int place) {
            int bits = 0;
            for (int person = 0; person < land.persons; person++) {
                if (where[person] == place) {
                    bits |= 1 << person;
                }
            }
            return bits;
        }

        int strayThings(Land land) {
            int bits = 0;
            for (int thing = 0; thing < land.things; thing++) {
                if (holders[thing] != owners[thing]) {
                    bits |= 1 << thing;
                }
            }
            return bits;
        }

        int newsOfAll(Land land) {
            int number = 0;
            for (int person = 0; person < land.persons; person++) {
                number += Integer.bitCount(news[person]);
            }
            return number;
        }

        boolean isReady(Land land, int person) {
            return land.isAwake(person, minute) && acted[person] == 0;
        }

        /** In how many minutes one can have gone over so many paths. */
        int minutesOver(Land land, int person, int paths) {
            if (paths == 0 || paths >= NEVER) {
                return paths;
            }
            int unready = Math.max(land.sleepOf(person, minute), acted[person]);
            return unready + (land.kinds[person] == SLOW ? 2 * paths : paths);
        }

        boolean canWalk(Land land, int person, int place) {
            return land.hasPerson(person) && land.hasPlace(place) && isReady(land, person)
                    && isIn(land.paths[where[person]], place);
        }

        void goTo(Land land, int person, int place) {
            where[person] = place;
            acted[person] = land.kinds[person] == SLOW ? 2 : 1;
        }

        boolean canGive(Land land, int thing, int person) {
            if (!land.hasThing(thing) || !land.hasPerson(person)) {
                return false;
            }
            int holder = holders[thing];
            return holder != person && isReady(land, holder) && land.isAwake(person, minute)
                    && where[holder] == where[person];
        }

        /** Whether it BINDS. */
        boolean handOver(Land land, int thing, int person) {
            boolean binding = giftBinds(land, thing, person, minute);
            acted[holders[thing]] = 1;
            holders[thing] = person;
            if (binding) {
                owners[thing] = person;
            }
            return binding;
        }

        boolean canVow(Land land, int person, int other) {
            return land.hasPerson(person) && land.hasPerson(other) && person != other
                    && isReady(land, person) && isReady(land, other) && where[person] == where[other]
                    && land.kinds[person] != MUTE && land.kinds[other] != MUTE
                    && !isIn(vowed[person], other);
        }

        /** Whether it BINDS. */
        boolean pledge(Land land, int person, int other) {
            boolean binding = isBinding(land, person, other, 0, minute);
            acted[person] = 1;
            acted[other] = 1;
            vowed[person] |= 1 << other;
            vowed[other] |= 1 << person;
            if (binding) {
                rightVows[person] |= 1 << other;
                rightVows[other] |= 1 << person;
            }
            return binding;
        }

        /** Whether a GIFT would BIND in that minute, where its HOLDER is now. */
        boolean giftBinds(Land land, int thing, int person, int clock) {
            return isBinding(land, holders[thing], person, land.worths[thing], clock);
        }

        private boolean isBinding(Land land, int person, int other, int price, int clock) {
            int crowd = bitsAt(land, where[person]) & land.awakeBits(clock) & ~(1 << person) & ~(1 << other);
            int judges = 0;
            for (int one = 0; one < land.persons; one++) {
                if (isIn(crowd, one) && land.kinds[one] == BENCH) {
                    judges++;
                }
            }
            return land.law.valueAt(clock, price, Integer.bitCount(crowd), judges) != 0;
        }

        /** The MINUTE: whether there is SMOKE. */
        boolean pass(Land land) {
            for (int place = 0; place < land.places; place++) {
                shareNews(land, bitsAt(land, place) & land.awakeBits(minute));
            }
            for (int person = 0; person < MAX_PERSONS; person++) {
                acted[person] = Math.max(0, acted[person] - 1);
            }
            minute++;
            if (minute < land.smoke) {
                return false;
            }
            riseSmoke(land);
            return true;
        }

        private void shareNews(Land land, int company) {
            int known = 0;
            for (int person = 0; person < land.persons; person++) {
                if (isIn(company, person)) {
                    known |= news[person];
                }
            }
            for (int person = 0; person < land.persons; person++) {
                if (isIn(company, person)) {
                    news[person] = known;
                }
            }
        }

        private void riseSmoke(Land land) {
            System.arraycopy(owners, 0, holders, 0, MAX_THINGS);
            System.arraycopy(rightVows, 0, vowed, 0, MAX_PERSONS);
            System.arraycopy(land.houses, 0, where, 0, MAX_PERSONS);
            Arrays.fill(acted, 0);
            minute = 0;
            morning++;
        }
    }

    /** How the PLACES of a LAND lie to each other. */
    private static final class Ways {
        private static final int SETS = 1 << MAX_PLACES;

        /** Over how many paths one comes from PLACE to PLACE; NEVER: one does not. */
        final int[][] paths = new int[MAX_PLACES][MAX_PLACES];
        /** For each set of PLACES that one has been at: where one may be then, as bits. */
        private int[] ends = new int[SETS];
        private int[] nextEnds = new int[SETS];

        void measure(Land land) {
            for (int from = 0; from < land.places; from++) {
                measureFrom(land, from);
            }
        }

        private void measureFrom(Land land, int from) {
            Arrays.fill(paths[from], NEVER);
            int edge = 1 << from;
            int been = 0;
            for (int steps = 0; steps < land.places; steps++) {
                been |= edge;
                for (int place = 0; place < land.places; place++) {
                    if (isIn(edge, place)) {
                        paths[from][place] = steps;
                    }
                }
                edge = neighbours(land, edge) & ~been;
            }
        }

        private static int neighbours(Land land, int bits) {
            int around = 0;
            for (int place = 0; place < land.places; place++) {
                if (isIn(bits, place)) {
                    around |= land.paths[place];
                }
            }
            return around;
        }

        /** The PLACES to which one comes without those that are shut, as bits. */
        int spread(Land land, int from, int shut) {
            int bits = 1 << from;
            for (int steps = 0; steps < land.places; steps++) {
                bits |= neighbours(land, bits) & ~shut;
            }
            return bits;
        }

        boolean isCut(Land land, int place) {
            int others = spread(land, place, 0) & ~(1 << place);
            for (int other = 0; other < land.places; other++) {
                if (isIn(others, other)) {
                    return spread(land, other, 1 << place) != others;
                }
            }
            return false;
        }

        int farthestFrom(Land land, int place) {
            int most = 0;
            for (int other = 0; other < land.places; other++) {
                if (paths[place][other] < NEVER) {
                    most = Math.max(most, paths[place][other]);
                }
            }
            return most;
        }

        /** Over how many paths, at the least, one has been at all PLACES of the REACH. */
        int pathsOfTour(Land land, int from) {
            int goal = spread(land, from, 0);
            Arrays.fill(ends, 0);
            ends[1 << from] = 1 << from;
            // Each PLACE but the first is come to and left again at the most.
            for (int steps = 0; steps <= 2 * MAX_PLACES; steps++) {
                if (ends[goal] != 0) {
                    return steps;
                }
                stepOn(land);
            }
            return NEVER;
        }

        private void stepOn(Land land) {
            Arrays.fill(nextEnds, 0);
            for (int been = 0; been < SETS; been++) {
                int around = neighbours(land, ends[been]);
                for (int place = 0; place < land.places; place++) {
                    if (isIn(around, place)) {
                        nextEnds[been | 1 << place] |= 1 << place;
                    }
                }
            }
            int[] row = ends;
            ends = nextEnds;
            nextEnds = row;
        }
    }

    /** What is SEEN. */
    private static final class Seen {
        final int[] places = new int[MAX_SEEN];
        final int[] minutes = new int[MAX_SEEN];
        final boolean[] can = new boolean[MAX_SEEN];
        int number;

        boolean add(int place, int minute, boolean could) {
            if (number >= MAX_SEEN) {
                return false;
            }
            places[number] = place;
            minutes[number] = minute;
            can[number] = could;
            number++;
            return true;
        }

        void copy(Seen from) {
            number = from.number;
            for (int one = 0; one < MAX_SEEN; one++) {
                places[one] = from.places[one];
                minutes[one] = from.minutes[one];
                can[one] = from.can[one];
            }
        }
    }

    /** What can be undone, and the MARKS. */
    private static final class Past {
        private final State[] ring = new State[MAX_UNDONE];
        private final State[] marked = new State[MAX_MARKS];
        private final Seen[] markedSeen = new Seen[MAX_MARKS];
        private final boolean[] laid = new boolean[MAX_MARKS];
        private int nextSlot;
        int kept;

        Past() {
            for (int slot = 0; slot < MAX_UNDONE; slot++) {
                ring[slot] = new State();
            }
            for (int mark = 0; mark < MAX_MARKS; mark++) {
                marked[mark] = new State();
                markedSeen[mark] = new Seen();
            }
        }

        void forget() {
            kept = 0;
            for (int mark = 0; mark < MAX_MARKS; mark++) {
                laid[mark] = false;
            }
        }

        /** The oldest of more than sixteen is written over. */
        void keep(State state) {
            ring[nextSlot].copy(state);
            nextSlot = (nextSlot + 1) % MAX_UNDONE;
            kept = Math.min(kept + 1, MAX_UNDONE);
        }

        boolean bringBack(State state) {
            if (kept == 0) {
                return false;
            }
            kept--;
            nextSlot = (nextSlot + MAX_UNDONE - 1) % MAX_UNDONE;
            state.copy(ring[nextSlot]);
            return true;
        }

        void lay(int mark, State state, Seen seen) {
            marked[mark].copy(state);
            markedSeen[mark].copy(seen);
            laid[mark] = true;
        }

        boolean goBack(int mark, State state, Seen seen) {
            if (!laid[mark]) {
                return false;
            }
            state.copy(marked[mark]);
            seen.copy(markedSeen[mark]);
            kept = 0;
            return true;
        }
    }
}
