import java.util.NoSuchElementException;

/**
 * A bus shelter that is the waiting list of heaven. The document's numbered promises say what each
 * call answers; its words in capitals (SOUL, BUS, PLACE ..) are used here in the same sense.
 */
public final class HeavenStop {
    public static final int NONE = -1;

    /** The document's other refusal: nobody, never, not by then, not so many. */
    private static final int NOT_SO = -2;

    private static final int MOST_SOULS = 8;
    private static final int MOST_BUSES = 4;
    private static final int MOST_LETS = 8;
    private static final int MOST_KNOTS = 64;
    private static final int MOST_OPEN = 8;
    private static final int MOST_BYTES = 700;
    private static final int BYTES_FED = 20;
    private static final int MOST_SEEN = 24;
    private static final int MOST_DEEDS = 20;
    private static final int MOST_EVERY = 30;
    private static final int MOST_COINS = 99;
    private static final int MOST_WET = 999;
    private static final int MOST_TURN = 9999;
    private static final int MOST_SOAK = 99;
    private static final int LAST_MINUTE = 9800;
    private static final int MOST_MINUTES = 200;
    private static final int FAR_MINUTES = 199;
    private static final int ORDERED = 4;
    private static final int ORDER_MINUTES = 20;
    private static final int COINS_MINUTES = 60;
    private static final int SEEN_MINUTES = 60;
    private static final int TIMES_DRAWN = 10;

    private static final int NOT_YET = 0;
    private static final int WAITS = 1;
    private static final int GONE = 2;
    private static final int OFF = 3;

    private static final int MAY_LAW = 0;
    private static final int TURN_LAW = 1;
    private static final int SOAK_LAW = 2;
    private static final int LAWS = 3;
    private static final long ERROR = Long.MIN_VALUE;
    private static final long MOST_VALUE = 1000000000000L;
    private static final int PLACE_OF_NONE = 9;

    private static final int AS_IT_GOES = 0;
    private static final int NOBODY_LETS = 1;
    private static final int ONE_NOT_THERE = 2;
    private static final int ALL_MAY = 3;
    private static final int ROOM_FOR_ALL = 4;
    private static final int ALL_RICH = 5;

    private static final int CANNOT_STAND = 1;
    private static final int TOO_MUCH = 2;
    private static final int TOLD_ALREADY = 3;
    private static final int NOT_TOLD = 4;
    private static final int LETS_ITSELF = 5;

    /** The words of the language, a blank behind each; a word's number in this row is its token. */
    private static final String WORDS =
        "soul bus lets seats rain seed law may turn soak or and not kind coins wet wait fare place minute ";
    private static final int WORD_COUNT = 20;
    private static final int LETTERS = 6;
    private static final int SOUL_WORD = 0;
    private static final int BUS_WORD = 1;
    private static final int LETS_WORD = 2;
    private static final int SEATS_WORD = 3;
    private static final int RAIN_WORD = 4;
    private static final int SEED_WORD = 5;
    private static final int LAW_WORD = 6;
    private static final int MAY_WORD = 7;
    private static final int SOAK_WORD = 9;
    private static final int OR = 10;
    private static final int AND = 11;
    private static final int NOT = 12;
    private static final int KIND = 13;
    private static final int MINUTE = 19;
    private static final int OWN_WORD = 20;
    private static final int NUMBER = 21;
    private static final int LINE_END = 22;
    private static final int OPEN = 23;
    private static final int CLOSE = 24;
    private static final int PLUS = 25;
    private static final int MINUS = 26;
    private static final int TIMES = 27;
    private static final int OVER = 28;
    private static final int BELOW = 29;
    private static final int AT_MOST = 30;
    private static final int ALIKE = 31;
    private static final int UNLIKE = 32;
    private static final int AT_LEAST = 33;
    private static final int ABOVE = 34;
    private static final int TEXT_END = 35;
    private static final int NO_TOKEN = 36;

    private static final int NAMES = 7;

    private final byte[] tape = new byte[MOST_BYTES];
    private int fed = 0;
    private final Reader reader = new Reader(tape);
    private Told told = new Told();
    private final Stand now = new Stand();
    private final Stand trial = new Stand();
    private final Stand image = new Stand();
    private boolean hasImage = false;
    private final Minutes minutes = new Minutes(told, trial);
    private final Deeds deeds = new Deeds();
    private final Sightings sightings = new Sightings();
    private final int[] firstOnes = new int[ORDERED];
    private final int[] picks = new int[ORDERED];
    private final int[] bestPicks = new int[ORDERED];
    private final int[] mayOf = new int[MOST_BUSES];

    public HeavenStop() {
        now.begin(told.coins, told.seed);
    }

    public int feed(int a, int b, int c, int d, int e) {
        if (fed + BYTES_FED > MOST_BYTES) {
            return NONE;
        }
        putNumber(a);
        putNumber(b);
        putNumber(c);
        putNumber(d);
        putNumber(e);
        return fed;
    }

    private void putNumber(int number) {
        for (int shift = 24; shift >= 0 && fed < MOST_BYTES; shift -= 8) {
            tape[fed] = (byte) (number >> shift);
            fed++;
        }
    }

    public int text(int n) {
        if (n < 0 || n > fed) {
            return NOT_SO;
        }
        fed = 0;
        int lines = reader.read(n);
        if (lines == NONE) {
            return NONE;
        }
        told = reader.exchange(told);
        now.begin(told.coins, told.seed);
        hasImage = false;
        deeds.size = 0;
        sightings.clear();
        return lines;
    }

    public int fault(int what) {
        switch (what) {
            case 0: return reader.fault;
            case 1: return reader.place;
            default: return NONE;
        }
    }

    public int named(int what, int letters) {
        switch (what) {
            case 0: return find(told.soulNames, told.souls, letters);
            case 1: return find(told.busNames, told.buses, letters);
            default: return NONE;
        }
    }

    private static int find(int[] names, int many, int letters) {
        for (int i = 0; i < many && i < names.length; i++) {
            if (names[i] == letters) {
                return i;
            }
        }
        return NONE;
    }

    private boolean isSoul(int soul) {
        return soul >= 0 && soul < told.souls;
    }

    private boolean isBus(int bus) {
        return bus >= 0 && bus < told.buses;
    }

    public int soul(int soul, int what) throws IndexOutOfBoundsException, NoSuchElementException {
        if (!isSoul(soul)) {
            throw new IndexOutOfBoundsException("no such soul");
        }
        switch (what) {
            case 0: return now.where[soul];
            case 1: return told.kindness[soul];
            case 2: return now.coins[soul];
            case 3: return now.wet[soul];
            case 4: return now.placeOf(soul);
            case 5: return now.passed[soul];
            case 6: return now.where[soul] == GONE ? now.goneBy[soul] : NOT_SO;
            case 7: return goneWith(soul);
            default: throw new NoSuchElementException("no such what");
        }
    }

    private int goneWith(int soul) {
        int bits = 0;
        if (now.where[soul] != GONE) {
            return bits;
        }
        for (int i = 0; i < told.souls; i++) {
            if (now.where[i] == GONE && now.goneBy[i] == now.goneBy[soul] && now.goneAt[i] == now.goneAt[soul]) {
                bits |= 1 << i;
            }
        }
        return bits;
    }

    public int bus(int bus, int what) {
        if (!isBus(bus)) {
            return NONE;
        }
        switch (what) {
            case 0: return told.first[bus];
            case 1: return told.every[bus];
            case 2: return told.room[bus];
            case 3: return told.fare[bus];
            case 4: return goneByBus(bus);
            default: return NONE;
        }
    }

    private int goneByBus(int bus) {
        int many = 0;
        for (int i = 0; i < told.souls; i++) {
            if (now.where[i] == GONE && now.goneBy[i] == bus) {
                many++;
            }
        }
        return many;
    }

    public int queue(int place) {
        if (place < 0 || place >= MOST_SOULS) {
            return NONE;
        }
        return place < now.waiting ? now.row[place] : NOT_SO;
    }

    public int lets(int soul) {
        return isSoul(soul) ? told.lets[soul] : NONE;
    }

    public long law(int what, int soul, int bus) {
        if (what < 0 || what >= LAWS || !isSoul(soul)) {
            return ERROR;
        }
        if (what != SOAK_LAW && !isBus(bus)) {
            return ERROR;
        }
        int place = now.placeOf(soul);
        minutes.ready(told, now);
        minutes.look(soul, place < 0 ? PLACE_OF_NONE : place, what == SOAK_LAW ? 0 : told.fare[bus]);
        return told.laws.worth(what, minutes.values);
    }

    public boolean move(int soul, int place) {
        if (!isSoul(soul) || place < 0 || place >= now.waiting) {
            return false;
        }
        int former = now.placeOf(soul);
        if (former < 0 || former == place) {
            return false;
        }
        now.takeOut(former);
        now.putIn(soul, place);
        deeds.note(Deeds.MOVED, soul, former);
        return true;
    }

    public int give(int soul, int coins) {
        if (!isSoul(soul) || coins < 1 || coins > MOST_COINS) {
            return NONE;
        }
        if (now.where[soul] == GONE || now.where[soul] == OFF) {
            return NONE;
        }
        deeds.note(Deeds.GIVEN, soul, now.coins[soul]);
        now.coins[soul] = Math.min(now.coins[soul] + coins, MOST_COINS);
        return now.coins[soul];
    }

    public int off(int soul) {
        if (!isSoul(soul)) {
            return NONE;
        }
        int place = now.placeOf(soul);
        if (place < 0) {
            return NONE;
        }
        now.takeOut(place);
        now.where[soul] = OFF;
        deeds.note(Deeds.WALKED_OFF, soul, place);
        return now.waiting;
    }

    public int go(int n) {
        if (n < 0 || n > MOST_MINUTES || now.minute + n > LAST_MINUTE) {
            return NONE;
        }
        minutes.ready(told, now);
        minutes.draws = true;
        minutes.pass(n);
        if (n > 0) {
            deeds.size = 0;
        }
        return now.minute;
    }

    /** From here on the trial stands as it is now, and MINUTES go by in it as it goes. */
    private void tryFromNow() {
        trial.copy(now);
        minutes.ready(told, trial);
    }

    public int ahead(int n, int what, int soul) {
        if (n < 0 || n > MOST_MINUTES || what < 0 || what > 4) {
            return NONE;
        }
        if (what == 3 && !isSoul(soul)) {
            return NONE;
        }
        tryFromNow();
        minutes.pass(n);
        switch (what) {
            case 0: return trial.howMany(GONE, told.souls);
            case 1: return kindnessGone(trial);
            case 2: return sum(trial.passed) - sum(now.passed);
            case 3: return trial.wet[soul];
            default: return trial.waiting;
        }
    }

    private int kindnessGone(Stand stand) {
        int kindness = 0;
        for (int i = 0; i < told.souls; i++) {
            if (stand.where[i] == GONE) {
                kindness += told.kindness[i];
            }
        }
        return kindness;
    }

    private int sum(int[] each) {
        int all = 0;
        for (int i = 0; i < told.souls && i < each.length; i++) {
            all += each[i];
        }
        return all;
    }

    public int next(int bus) {
        return isBus(bus) ? firstFrom(now.minute, bus) - now.minute : NONE;
    }

    /** The first MINUTE from the one given on in which a BUS comes. */
    private int firstFrom(int minute, int bus) {
        int every = told.every[bus];
        if (minute <= told.first[bus] || every < 1) {
            return told.first[bus];
        }
        int since = (minute - told.first[bus]) % every;
        return since == 0 ? minute : minute + every - since;
    }

    public int meet(int one, int other) {
        if (!isBus(one) || !isBus(other) || one == other) {
            return NONE;
        }
        int start = Math.max(now.minute, told.first[other]);
        int minute = firstFrom(start, one);
        // Behind as many times of one as the other one has MINUTES between, all comes again.
        for (int i = 0; i < MOST_EVERY; i++) {
            if (firstFrom(minute, other) == minute) {
                return minute - now.minute;
            }
            minute += told.every[one];
        }
        return NOT_SO;
    }

    public int goes(int soul) {
        if (!isSoul(soul)) {
            return NONE;
        }
        tryFromNow();
        return minutes.tillGone(soul, FAR_MINUTES);
    }

    public int empty() {
        tryFromNow();
        for (int i = 0; i < FAR_MINUTES; i++) {
            if (isEmpty(trial)) {
                return i;
            }
            minutes.pass(1);
        }
        return isEmpty(trial) ? FAR_MINUTES : NOT_SO;
    }

    private boolean isEmpty(Stand stand) {
        return stand.waiting == 0 && stand.howMany(NOT_YET, told.souls) == 0;
    }

    public int order(int what) {
        if (what < 0 || what > ORDERED) {
            return NONE;
        }
        int few = Math.min(now.waiting, ORDERED);
        int most = bestOrder(few);
        if (what == ORDERED) {
            return most;
        }
        return what < few ? bestPicks[what] : NOT_SO;
    }

    /** The best row of the first few is in bestPicks then; answers its KINDNESS. */
    private int bestOrder(int few) {
        sortFirst(few);
        int rows = power(few, few);
        int most = NONE;
        for (int code = 0; code < rows; code++) {
            if (pickRow(code, few)) {
                int kindness = kindnessBehindRow(few);
                if (kindness > most) {
                    most = kindness;
                    System.arraycopy(picks, 0, bestPicks, 0, ORDERED);
                }
            }
        }
        return most;
    }

    /** The first few of the QUEUE by their numbers, so that codes run through rows by SOULS. */
    private void sortFirst(int few) {
        int bits = 0;
        for (int i = 0; i < few && i < MOST_SOULS; i++) {
            bits |= 1 << now.row[i];
        }
        int many = 0;
        for (int i = 0; i < MOST_SOULS && many < ORDERED; i++) {
            if ((bits & (1 << i)) != 0) {
                firstOnes[many] = i;
                many++;
            }
        }
    }

    private static int power(int base, int times) {
        int all = 1;
        for (int i = 0; i < times; i++) {
            all *= base;
        }
        return all;
    }

    /** The code's digits, the highest first, are the row; false if one stands in it twice. */
    private boolean pickRow(int code, int few) {
        int left = code;
        int used = 0;
        for (int i = Math.min(few, ORDERED) - 1; i >= 0; i--) {
            int digit = left % few;
            left /= few;
            if ((used & (1 << digit)) != 0 || digit >= ORDERED) {
                return false;
            }
            used |= 1 << digit;
            picks[i] = firstOnes[digit];
        }
        return true;
    }

    private int kindnessBehindRow(int few) {
        tryFromNow();
        for (int i = 0; i < few && i < ORDERED; i++) {
            trial.row[i] = picks[i];
        }
        minutes.pass(ORDER_MINUTES);
        return kindnessGone(trial);
    }

    public int trips(int bus) {
        if (!isBus(bus)) {
            return NONE;
        }
        minutes.ready(told, now);
        int many = Integer.bitCount(minutes.whoMay(bus));
        int room = told.room[bus];
        return room < 1 ? NONE : (many + room - 1) / room;
    }

    public int match(int what) {
        if (what < 0 || what > MOST_BUSES) {
            return NONE;
        }
        int most = bestMatch();
        if (what == MOST_BUSES) {
            return most;
        }
        return what < told.buses && bestPicks[what] < MOST_SOULS ? bestPicks[what] : NOT_SO;
    }

    /** The best match is in bestPicks then (MOST_SOULS for none); answers its KINDNESS. */
    private int bestMatch() {
        minutes.ready(told, now);
        for (int bus = 0; bus < told.buses; bus++) {
            mayOf[bus] = minutes.whoMay(bus);
        }
        int matches = power(MOST_SOULS + 1, told.buses);
        int most = NONE;
        for (int code = 0; code < matches; code++) {
            int kindness = pickMatch(code);
            if (kindness > most) {
                most = kindness;
                System.arraycopy(picks, 0, bestPicks, 0, MOST_BUSES);
            }
        }
        return most;
    }

    /** The code's digits, the highest first, are the SOULS of the BUSES; NONE if they can't be. */
    private int pickMatch(int code) {
        int left = code;
        int used = 0;
        int kindness = 0;
        for (int bus = told.buses - 1; bus >= 0; bus--) {
            int soul = left % (MOST_SOULS + 1);
            left /= MOST_SOULS + 1;
            picks[bus] = soul;
            if (soul < MOST_SOULS) {
                int bit = 1 << soul;
                if ((used & bit) != 0 || (mayOf[bus] & bit) == 0) {
                    return NONE;
                }
                used |= bit;
                kindness += told.kindness[soul];
            }
        }
        return kindness;
    }

    public int coins(int soul) {
        if (!isSoul(soul)) {
            return NONE;
        }
        for (int more = 0; now.coins[soul] + more <= MOST_COINS; more++) {
            tryFromNow();
            trial.coins[soul] += more;
            if (minutes.tillGone(soul, COINS_MINUTES) != NOT_SO) {
                return more;
            }
        }
        return NOT_SO;
    }

    public int rests(int one, int other) {
        if (!isSoul(one) || !isSoul(other) || one == other) {
            return NONE;
        }
        int many = 0;
        for (int both = 0; both < 4; both++) {
            if (isRest(one, other, both >> 1, both & 1)) {
                many++;
            }
        }
        return many;
    }

    public int rest(int one, int other, int k) {
        if (!isSoul(one) || !isSoul(other) || one == other || k < 0) {
            return NONE;
        }
        int ahead = 0;
        for (int both = 0; both < 4; both++) {
            if (isRest(one, other, both >> 1, both & 1)) {
                if (ahead == k) {
                    return 10 * (both >> 1) + (both & 1);
                }
                ahead++;
            }
        }
        return NOT_SO;
    }

    private boolean isRest(int one, int other, int ones, int others) {
        return windowFor(one, other, ones, others) >= windowFor(one, other, 1 - ones, others)
            && windowFor(other, one, others, ones) >= windowFor(other, one, 1 - others, ones);
    }

    /** What a SOUL has of the WINDOW, if it does its own and the other one its own. */
    private int windowFor(int soul, int other, int own, int others) {
        if (own == 0) {
            return others == 0 ? told.kindness[soul] / 2 : told.kindness[soul];
        }
        return others == 0 ? told.kindness[soul] + now.coins[soul] : now.coins[soul] - told.kindness[other];
    }

    public long dry(int n, int what) {
        if (n < 0 || n > 6 || what < 0 || what > 1) {
            return NONE;
        }
        int common = commonDivisor(100 - told.rain, 100);
        if (common < 1) {
            return NONE;
        }
        int part = (what == 0 ? 100 - told.rain : 100) / common;
        long all = 1;
        for (int i = 0; i < n; i++) {
            all *= part;
        }
        return all;
    }

    private static int commonDivisor(int a, int b) {
        int greater = b;
        int less = a;
        for (int i = 0; i < 100 && less != 0; i++) {
            int left = greater % less;
            greater = less;
            less = left;
        }
        return greater;
    }

    public int see(int minutes, int soul, boolean isGone) {
        if (minutes < 1 || minutes > SEEN_MINUTES || !isSoul(soul)) {
            return NONE;
        }
        return sightings.add(minutes, soul, isGone ? Sightings.WAS_GONE : Sightings.WAS_NOT);
    }

    public int strike(int seen) {
        if (seen < 0 || seen >= sightings.size) {
            return NONE;
        }
        return sightings.add(0, seen, Sightings.STRIKES);
    }

    public boolean known(int n) {
        if (n < -1 || n > sightings.size) {
            return false;
        }
        sightings.knownBy = n;
        return true;
    }

    public int everies(int bus) {
        if (!isBus(bus)) {
            return NONE;
        }
        int knownBits = sightings.knownBits();
        int bits = 0;
        for (int every = 1; every <= MOST_EVERY; every++) {
            if (isAllSo(knownBits, bus, every)) {
                bits |= 1 << (every - 1);
            }
        }
        return bits;
    }

    private boolean isAllSo(int knownBits, int bus, int every) {
        trial.begin(told.coins, told.seed);
        minutes.ready(told, trial);
        minutes.otherBus = bus;
        minutes.otherEvery = every;
        int last = sightings.lastMinutes(knownBits);
        for (int i = 1; i <= last; i++) {
            minutes.pass(1);
            if (!sightings.areSo(knownBits, i, trial.where)) {
                return false;
            }
        }
        return true;
    }

    public int ask(int bus, int what) {
        if (!isBus(bus) || what < 0 || what > 1) {
            return NONE;
        }
        int possible = everies(bus);
        int best = 0;
        int fewest = MOST_EVERY + 1;
        for (int minute = 0; minute <= SEEN_MINUTES; minute++) {
            int left = leftAtWorst(possible, minute - told.first[bus]);
            if (left < fewest) {
                fewest = left;
                best = minute;
            }
        }
        return what == 0 ? best : fewest;
    }

    private static int leftAtWorst(int possible, int since) {
        int came = 0;
        for (int every = 1; every <= MOST_EVERY; every++) {
            if ((possible & (1 << (every - 1))) != 0 && since >= 0 && since % every == 0) {
                came++;
            }
        }
        return Math.max(came, Integer.bitCount(possible) - came);
    }

    public int chance(int seed, int n, int soul, int wet) {
        if (seed < 0 || n < 1 || n > 99 || !isSoul(soul) || wet < 0 || wet > MOST_WET) {
            return NONE;
        }
        int number = seed;
        int many = 0;
        for (int i = 0; i < TIMES_DRAWN; i++) {
            tryFromNow();
            minutes.draws = true;
            trial.number = number;
            minutes.pass(n);
            number = trial.number;
            if (trial.wet[soul] >= wet) {
                many++;
            }
        }
        return many;
    }

    public int tried(int what, int i, int n) {
        if (what < AS_IT_GOES || what > ALL_RICH || n < 0 || n > MOST_MINUTES) {
            return NONE;
        }
        if (what == ONE_NOT_THERE ? !isSoul(i) : i != 0) {
            return NONE;
        }
        tryFromNow();
        minutes.otherwise = what;
        if (what == ONE_NOT_THERE) {
            sendAway(i);
        }
        if (what == ALL_RICH) {
            for (int soul = 0; soul < told.souls; soul++) {
                trial.coins[soul] = MOST_COINS;
            }
        }
        minutes.pass(n);
        return trial.howMany(GONE, told.souls) - now.howMany(GONE, told.souls);
    }

    private void sendAway(int soul) {
        if (trial.where[soul] == GONE) {
            return;
        }
        int place = trial.placeOf(soul);
        if (place >= 0) {
            trial.takeOut(place);
        }
        trial.where[soul] = OFF;
    }

    public int undo() {
        if (deeds.size < 1) {
            return NONE;
        }
        deeds.undoLast(now);
        return deeds.size;
    }

    public int keep() {
        image.copy(now);
        hasImage = true;
        return now.minute;
    }

    public int back() {
        if (!hasImage) {
            return NONE;
        }
        now.copy(image);
        deeds.size = 0;
        return now.minute;
    }

    public int count(int what) {
        switch (what) {
            case 0: return told.souls;
            case 1: return told.buses;
            case 2: return told.seats;
            case 3: return told.laws.knots;
            case 4: return now.minute;
            case 5: return now.waiting;
            case 6: return now.howMany(GONE, told.souls);
            case 7: return now.howMany(OFF, told.souls);
            case 8: return kindnessGone(now);
            case 9: return sum(now.wet);
            case 10: return sum(now.passed);
            case 11: return sightings.size;
            case 12: return sightings.knownMany();
            case 13: return deeds.size;
            default: return NONE;
        }
    }

    /** What a TEXT tells. */
    private static final class Told {
        int souls = 0;
        final int[] soulNames = new int[MOST_SOULS];
        final int[] died = new int[MOST_SOULS];
        final int[] kindness = new int[MOST_SOULS];
        final int[] coins = new int[MOST_SOULS];
        final int[] lets = new int[MOST_SOULS];
        int letsTold = 0;
        int buses = 0;
        final int[] busNames = new int[MOST_BUSES];
        final int[] first = new int[MOST_BUSES];
        final int[] every = new int[MOST_BUSES];
        final int[] room = new int[MOST_BUSES];
        final int[] fare = new int[MOST_BUSES];
        int seats = 2;
        int rain = 0;
        int seed = 0;
        final Laws laws = new Laws();

        void clear() {
            souls = 0;
            for (int i = 0; i < MOST_SOULS; i++) {
                lets[i] = 0;
                coins[i] = 0;
            }
            letsTold = 0;
            buses = 0;
            seats = 2;
            rain = 0;
            seed = 0;
            laws.clear();
        }
    }

    /** The laws, each a part of one row of KNOTS, every sign behind what it joins. */
    private static final class Laws {
        private final int[] tokens = new int[MOST_KNOTS];
        private final int[] numbers = new int[MOST_KNOTS];
        private final int[] from = new int[LAWS];
        private final int[] to = new int[LAWS];
        private final long[] stack = new long[MOST_KNOTS];
        private int length = 0;
        int knots = 0;

        void clear() {
            length = 0;
            knots = 0;
            for (int i = 0; i < LAWS; i++) {
                from[i] = 0;
                to[i] = 0;
            }
        }

        boolean isTold(int law) {
            return law >= 0 && law < LAWS && to[law] > from[law];
        }

        /** All put from here on till end belongs to a law. */
        void start(int law) {
            if (law >= 0 && law < LAWS) {
                from[law] = length;
            }
        }

        void end(int law) {
            if (law >= 0 && law < LAWS) {
                to[law] = length;
            }
        }

        void put(int token, int number) {
            if (length < MOST_KNOTS) {
                tokens[length] = token;
                numbers[length] = number;
                length++;
            }
        }

        /** E of a law by the values of the NAMES; ERROR without such a law, too. */
        long worth(int law, long[] values) {
            if (!isTold(law)) {
                return ERROR;
            }
            int top = 0;
            for (int i = from[law]; i < to[law] && i < MOST_KNOTS; i++) {
                int token = tokens[i];
                if (token == NUMBER || token >= KIND && token <= MINUTE) {
                    if (top >= MOST_KNOTS) {
                        return ERROR;
                    }
                    stack[top] = token == NUMBER ? numbers[i] : values[token - KIND];
                    top++;
                } else if (token == NOT) {
                    if (top < 1) {
                        return ERROR;
                    }
                    stack[top - 1] = stack[top - 1] == 0 ? 1 : 0;
                } else {
                    if (top < 2) {
                        return ERROR;
                    }
                    top--;
                    stack[top - 1] = joined(token, stack[top - 1], stack[top]);
                    if (stack[top - 1] == ERROR) {
                        return ERROR;
                    }
                }
            }
            return top == 1 ? stack[0] : ERROR;
        }

        private static long joined(int token, long a, long b) {
            long value;
            switch (token) {
                case OR: value = a != 0 || b != 0 ? 1 : 0; break;
                case AND: value = a != 0 && b != 0 ? 1 : 0; break;
                case BELOW: value = a < b ? 1 : 0; break;
                case AT_MOST: value = a <= b ? 1 : 0; break;
                case ALIKE: value = a == b ? 1 : 0; break;
                case UNLIKE: value = a != b ? 1 : 0; break;
                case AT_LEAST: value = a >= b ? 1 : 0; break;
                case ABOVE: value = a > b ? 1 : 0; break;
                case PLUS: value = a + b; break;
                case MINUS: value = a - b; break;
                case TIMES:
                    // Looked at by dividing: a product of two such values may be beyond a long.
                    long size = a < 0 ? -a : a;
                    if (size != 0 && (b < 0 ? -b : b) > MOST_VALUE / size) {
                        return ERROR;
                    }
                    value = a * b;
                    break;
                case OVER:
                    if (b == 0) {
                        return ERROR;
                    }
                    value = a / b;
                    break;
                default: return ERROR;
            }
            return value > MOST_VALUE || value < -MOST_VALUE ? ERROR : value;
        }
    }

    /** The TOKENS of the TAPE, one at a time. */
    private static final class Tokens {
        private final int[] words = new int[WORD_COUNT];
        private final byte[] bytes;
        private int length = 0;
        private int at = 0;
        int token = TEXT_END;
        int place = 0;
        /** A number (cut where it is too big for anything), or a word's letters, 5 bits each. */
        int worth = 0;

        Tokens(byte[] bytes) {
            this.bytes = bytes;
            int word = 0;
            int letter = 0;
            for (int i = 0; i < WORDS.length() && word < WORD_COUNT; i++) {
                if (WORDS.charAt(i) == ' ') {
                    word++;
                    letter = 0;
                } else {
                    words[word] |= (WORDS.charAt(i) - 'a' + 1) << (5 * (LETTERS - 1 - letter));
                    letter++;
                }
            }
        }

        void start(int textLength) {
            length = Math.min(textLength, bytes.length);
            at = 0;
            advance();
        }

        void advance() {
            while (at < length && (bytes[at] == ' ' || bytes[at] == '\n')) {
                at++;
            }
            place = at;
            worth = 0;
            if (at >= length) {
                token = TEXT_END;
            } else if (bytes[at] >= 'a' && bytes[at] <= 'z') {
                readWord();
            } else if (bytes[at] >= '0' && bytes[at] <= '9') {
                readNumber();
            } else {
                readSign();
            }
        }

        private void readWord() {
            int letters = 0;
            while (at < length && bytes[at] >= 'a' && bytes[at] <= 'z') {
                if (letters < LETTERS) {
                    worth |= (bytes[at] - 'a' + 1) << (5 * (LETTERS - 1 - letters));
                }
                letters++;
                at++;
            }
            if (letters > LETTERS) {
                token = NO_TOKEN;
                return;
            }
            int word = find(words, WORD_COUNT, worth);
            token = word == NONE ? OWN_WORD : word;
        }

        private void readNumber() {
            token = NUMBER;
            while (at < length && bytes[at] >= '0' && bytes[at] <= '9') {
                worth = Math.min(worth * 10 + bytes[at] - '0', 1000000);
                at++;
            }
        }

        private void readSign() {
            int sign = bytes[at];
            at++;
            int behind = at < length ? bytes[at] : 0;
            switch (sign) {
                case ';': token = LINE_END; break;
                case '(': token = OPEN; break;
                case ')': token = CLOSE; break;
                case '+': token = PLUS; break;
                case '-': token = MINUS; break;
                case '*': token = TIMES; break;
                case '/': token = OVER; break;
                case '=': token = ALIKE; break;
                case '<': token = behind == '=' ? AT_MOST : behind == '>' ? UNLIKE : BELOW; break;
                case '>': token = behind == '=' ? AT_LEAST : ABOVE; break;
                default: token = NO_TOKEN; break;
            }
            if (token == AT_MOST || token == UNLIKE || token == AT_LEAST) {
                at++;
            }
        }
    }

    /** Reads a TEXT line by line, up to its first FAULT. */
    private static final class Reader {
        private final Tokens tokens;
        private final LawReader laws;
        /** What is read; it becomes the TEXT only if there is no FAULT. */
        private Told told = new Told();
        private int toldOnce = 0;
        int fault = 0;
        int place = NONE;

        Reader(byte[] bytes) {
            tokens = new Tokens(bytes);
            laws = new LawReader(tokens);
        }

        /** How many LINES; NONE with a FAULT. */
        int read(int length) {
            told.clear();
            toldOnce = 0;
            fault = 0;
            place = NONE;
            tokens.start(length);
            int lines = 0;
            while (tokens.token != TEXT_END && lines < MOST_BYTES) {
                if (!readLine()) {
                    return NONE;
                }
                lines++;
            }
            return lines;
        }

        /** What was read, for one that isn't needed any more. */
        Told exchange(Told former) {
            Told latest = told;
            told = former;
            return latest;
        }

        private boolean refuse(int why) {
            fault = why;
            place = tokens.place;
            return false;
        }

        private boolean readLine() {
            boolean isRead;
            switch (tokens.token) {
                case SOUL_WORD: isRead = readSoul(); break;
                case BUS_WORD: isRead = readBus(); break;
                case LETS_WORD: isRead = readLets(); break;
                case SEATS_WORD:
                case RAIN_WORD:
                case SEED_WORD: isRead = readOnce(tokens.token); break;
                case LAW_WORD: isRead = readLaw(); break;
                default: return refuse(CANNOT_STAND);
            }
            if (!isRead) {
                return false;
            }
            if (tokens.token != LINE_END) {
                return refuse(CANNOT_STAND);
            }
            tokens.advance();
            return true;
        }

        private boolean readSoul() {
            int soul = told.souls;
            if (soul >= MOST_SOULS) {
                return refuse(TOO_MUCH);
            }
            tokens.advance();
            if (!readNewName(told.soulNames, soul)
                || !readNumber(told.died, soul, 0, 99)
                || !readNumber(told.kindness, soul, 0, 99)
                || !readNumber(told.coins, soul, 0, MOST_COINS)) {
                return false;
            }
            told.souls++;
            return true;
        }

        private boolean readBus() {
            int bus = told.buses;
            if (bus >= MOST_BUSES) {
                return refuse(TOO_MUCH);
            }
            tokens.advance();
            if (!readNewName(told.busNames, bus)
                || !readNumber(told.first, bus, 0, 99)
                || !readNumber(told.every, bus, 1, MOST_EVERY)
                || !readNumber(told.room, bus, 1, MOST_SOULS)
                || !readNumber(told.fare, bus, 0, 99)) {
                return false;
            }
            told.buses++;
            return true;
        }

        private boolean readNewName(int[] names, int many) {
            if (tokens.token != OWN_WORD) {
                return refuse(CANNOT_STAND);
            }
            if (find(names, many, tokens.worth) != NONE) {
                return refuse(TOLD_ALREADY);
            }
            if (many < names.length) {
                names[many] = tokens.worth;
            }
            tokens.advance();
            return true;
        }

        private boolean readNumber(int[] into, int i, int least, int most) {
            if (tokens.token != NUMBER) {
                return refuse(CANNOT_STAND);
            }
            if (tokens.worth < least || tokens.worth > most) {
                return refuse(TOO_MUCH);
            }
            if (i >= 0 && i < into.length) {
                into[i] = tokens.worth;
            }
            tokens.advance();
            return true;
        }

        private boolean readLets() {
            if (told.letsTold >= MOST_LETS) {
                return refuse(TOO_MUCH);
            }
            tokens.advance();
            int one = find(told.soulNames, told.souls, tokens.worth);
            if (tokens.token != OWN_WORD || one == NONE) {
                return refuse(tokens.token != OWN_WORD ? CANNOT_STAND : NOT_TOLD);
            }
            tokens.advance();
            int other = find(told.soulNames, told.souls, tokens.worth);
            if (tokens.token != OWN_WORD || other == NONE) {
                return refuse(tokens.token != OWN_WORD ? CANNOT_STAND : NOT_TOLD);
            }
            if ((told.lets[one] & (1 << other)) != 0) {
                return refuse(TOLD_ALREADY);
            }
            if (one == other) {
                return refuse(LETS_ITSELF);
            }
            told.lets[one] |= 1 << other;
            told.letsTold++;
            tokens.advance();
            return true;
        }

        private boolean readOnce(int word) {
            if ((toldOnce & (1 << word)) != 0) {
                return refuse(TOLD_ALREADY);
            }
            toldOnce |= 1 << word;
            tokens.advance();
            if (tokens.token != NUMBER) {
                return refuse(CANNOT_STAND);
            }
            int most = word == SEATS_WORD ? 8 : word == RAIN_WORD ? 100 : 99999;
            if (tokens.worth > most) {
                return refuse(TOO_MUCH);
            }
            switch (word) {
                case SEATS_WORD: told.seats = tokens.worth; break;
                case RAIN_WORD: told.rain = tokens.worth; break;
                default: told.seed = tokens.worth; break;
            }
            tokens.advance();
            return true;
        }

        private boolean readLaw() {
            tokens.advance();
            if (tokens.token < MAY_WORD || tokens.token > SOAK_WORD) {
                return refuse(CANNOT_STAND);
            }
            int law = tokens.token - MAY_WORD;
            if (told.laws.isTold(law)) {
                return refuse(TOLD_ALREADY);
            }
            tokens.advance();
            told.laws.start(law);
            int why = laws.read(told.laws);
            told.laws.end(law);
            return why == 0 || refuse(why);
        }
    }

    /** Reads an E into KNOTS, with its open signs in a stack in place of methods that call one another. */
    private static final class LawReader {
        private final Tokens tokens;
        private final int[] openSigns = new int[MOST_KNOTS + MOST_OPEN];
        private int top = 0;
        private int depth = 0;
        /** Of each '(' that is open, whether the C that is read in it has its comparison. */
        private final boolean[] hasCompared = new boolean[MOST_OPEN + 1];
        private boolean wantsValue = true;
        /** Whether a B begins here, so that a not can stand. */
        private boolean isAtB = true;

        LawReader(Tokens tokens) {
            this.tokens = tokens;
        }

        /** Up to the first token behind E: 0, or the FAULT of the token at which it stopped. */
        int read(Laws laws) {
            top = 0;
            depth = 0;
            hasCompared[0] = false;
            wantsValue = true;
            isAtB = true;
            for (int i = 0; i < MOST_BYTES; i++) {
                if (!wantsValue && depth == 0 && tokens.token == LINE_END) {
                    putSigns(laws, 1);
                    return 0;
                }
                int why = wantsValue ? takeValue(laws) : takeSign(laws);
                if (why != 0) {
                    return why;
                }
                tokens.advance();
            }
            return CANNOT_STAND;
        }

        private int takeValue(Laws laws) {
            int token = tokens.token;
            if (token == OPEN) {
                return takeOpen();
            }
            if (token == NOT && isAtB) {
                return takeKnot(laws) ? push(NOT) : TOO_MUCH;
            }
            if (token != NUMBER && (token < KIND || token > MINUTE)) {
                return CANNOT_STAND;
            }
            if (token == NUMBER && tokens.worth > 9999 || !takeKnot(laws)) {
                return TOO_MUCH;
            }
            laws.put(token, token == NUMBER ? tokens.worth : 0);
            wantsValue = false;
            return 0;
        }

        private int takeOpen() {
            if (depth >= MOST_OPEN) {
                return TOO_MUCH;
            }
            depth++;
            hasCompared[depth] = false;
            isAtB = true;
            return push(OPEN);
        }

        private int takeSign(Laws laws) {
            int token = tokens.token;
            if (token == CLOSE && depth > 0) {
                putSigns(laws, 1);
                top--;
                depth--;
                return 0;
            }
            int level = levelOf(token);
            boolean compares = level == levelOf(BELOW);
            if (level == 0 || token == NOT || compares && hasCompared[depth]) {
                return CANNOT_STAND;
            }
            if (!takeKnot(laws)) {
                return TOO_MUCH;
            }
            putSigns(laws, level);
            isAtB = token == OR || token == AND;
            if (compares || isAtB) {
                hasCompared[depth] = compares;
            }
            wantsValue = true;
            return push(token);
        }

        private static boolean takeKnot(Laws laws) {
            if (laws.knots >= MOST_KNOTS) {
                return false;
            }
            laws.knots++;
            return true;
        }

        private int push(int sign) {
            if (top >= openSigns.length) {
                return TOO_MUCH;
            }
            openSigns[top] = sign;
            top++;
            return 0;
        }

        /** The open signs that bind no less than a level, up to a '(', become KNOTS. */
        private void putSigns(Laws laws, int level) {
            while (top > 0 && levelOf(openSigns[top - 1]) >= level) {
                top--;
                laws.put(openSigns[top], 0);
            }
        }

        private static int levelOf(int token) {
            switch (token) {
                case OR: return 1;
                case AND: return 2;
                case NOT: return 3;
                case BELOW:
                case AT_MOST:
                case ALIKE:
                case UNLIKE:
                case AT_LEAST:
                case ABOVE: return 4;
                case PLUS:
                case MINUS: return 5;
                case TIMES:
                case OVER: return 6;
                default: return 0;
            }
        }
    }

    /** How all stands at the beginning of a MINUTE. */
    private static final class Stand {
        int minute = 0;
        /** The last number of those by which it rains. */
        int number = 0;
        final int[] where = new int[MOST_SOULS];
        final int[] coins = new int[MOST_SOULS];
        final int[] wet = new int[MOST_SOULS];
        final int[] passed = new int[MOST_SOULS];
        final int[] goneBy = new int[MOST_SOULS];
        final int[] goneAt = new int[MOST_SOULS];
        /** The QUEUE: who stands at each PLACE. */
        final int[] row = new int[MOST_SOULS];
        int waiting = 0;

        void begin(int[] firstCoins, int seed) {
            minute = 0;
            number = seed;
            waiting = 0;
            for (int i = 0; i < MOST_SOULS; i++) {
                where[i] = NOT_YET;
                coins[i] = i < firstCoins.length ? firstCoins[i] : 0;
                wet[i] = 0;
                passed[i] = 0;
                goneBy[i] = NOT_SO;
                goneAt[i] = NOT_SO;
            }
        }

        void copy(Stand other) {
            minute = other.minute;
            number = other.number;
            waiting = other.waiting;
            for (int i = 0; i < MOST_SOULS; i++) {
                where[i] = other.where[i];
                coins[i] = other.coins[i];
                wet[i] = other.wet[i];
                passed[i] = other.passed[i];
                goneBy[i] = other.goneBy[i];
                goneAt[i] = other.goneAt[i];
                row[i] = other.row[i];
            }
        }

        int placeOf(int soul) {
            for (int i = 0; i < waiting && i < MOST_SOULS; i++) {
                if (row[i] == soul) {
                    return i;
                }
            }
            return NOT_SO;
        }

        /** Who stands behind the PLACE moves up. */
        void takeOut(int place) {
            if (place < 0 || place >= waiting) {
                return;
            }
            waiting--;
            for (int i = place; i < waiting && i < MOST_SOULS - 1; i++) {
                row[i] = row[i + 1];
            }
        }

        void putIn(int soul, int place) {
            if (place < 0 || place > waiting || waiting >= MOST_SOULS) {
                return;
            }
            for (int i = waiting; i > place; i--) {
                row[i] = row[i - 1];
            }
            row[place] = soul;
            where[soul] = WAITS;
            waiting++;
        }

        int howMany(int place, int souls) {
            int many = 0;
            for (int i = 0; i < souls && i < MOST_SOULS; i++) {
                if (where[i] == place) {
                    many++;
                }
            }
            return many;
        }
    }

    /** Lets MINUTES go by: as it goes and as told, unless it is set otherwise behind ready. */
    private static final class Minutes {
        private Told told;
        private Stand stand;
        /** Whether numbers are drawn for the rain. */
        boolean draws = false;
        int otherwise = AS_IT_GOES;
        /** A BUS that comes every otherEvery MINUTES in place of its own. */
        int otherBus = NONE;
        int otherEvery = 1;
        /** The NAMES of an E, in the row of their words. */
        final long[] values = new long[NAMES];
        private final int[] turns = new int[MOST_SOULS];

        Minutes(Told told, Stand stand) {
            this.told = told;
            this.stand = stand;
        }

        void ready(Told byText, Stand from) {
            told = byText;
            stand = from;
            draws = false;
            otherwise = AS_IT_GOES;
            otherBus = NONE;
            otherEvery = 1;
        }

        void pass(int many) {
            for (int i = 0; i < many; i++) {
                letCome();
                for (int bus = 0; bus < told.buses; bus++) {
                    if (comes(bus)) {
                        board(bus);
                    }
                }
                if (rains()) {
                    soak();
                }
                stand.minute++;
            }
        }

        /** Behind how many MINUTES, so many at most, a SOUL is GONE; NOT_SO: not by then. */
        int tillGone(int soul, int most) {
            if (stand.where[soul] == OFF) {
                return NOT_SO;
            }
            for (int i = 0; i < most; i++) {
                if (stand.where[soul] == GONE) {
                    return i;
                }
                pass(1);
            }
            return stand.where[soul] == GONE ? most : NOT_SO;
        }

        private void letCome() {
            for (int i = 0; i < told.souls; i++) {
                if (told.died[i] == stand.minute && stand.where[i] == NOT_YET) {
                    stand.putIn(i, stand.waiting);
                }
            }
        }

        private boolean comes(int bus) {
            int every = bus == otherBus ? otherEvery : told.every[bus];
            int since = stand.minute - told.first[bus];
            return since >= 0 && every > 0 && since % every == 0;
        }

        private void board(int bus) {
            int may = whoMay(bus);
            findTurns(bus, may);
            int room = otherwise == ROOM_FOR_ALL ? MOST_SOULS : told.room[bus];
            while (room > 0) {
                int place = firstToBoard(may);
                if (place < 0) {
                    // Nobody is left, or those who are left let one another: there is still ROOM.
                    return;
                }
                int soul = stand.row[place];
                stand.takeOut(place);
                stand.where[soul] = GONE;
                stand.goneBy[soul] = bus;
                stand.goneAt[soul] = stand.minute;
                stand.coins[soul] = Math.max(stand.coins[soul] - told.fare[bus], 0);
                may &= ~(1 << soul);
                room--;
            }
            for (int i = 0; i < told.souls; i++) {
                if ((may & (1 << i)) != 0) {
                    stand.passed[i]++;
                }
            }
        }

        /** Those (bits) who WAIT and MAY get on a BUS as all is. */
        int whoMay(int bus) {
            int bits = 0;
            for (int place = 0; place < stand.waiting; place++) {
                int soul = stand.row[place];
                look(soul, place, told.fare[bus]);
                long worth = told.laws.worth(MAY_LAW, values);
                boolean may = worth == ERROR ? stand.coins[soul] >= told.fare[bus] : worth != 0;
                if (may || otherwise == ALL_MAY) {
                    bits |= 1 << soul;
                }
            }
            return bits;
        }

        /** TURNS of those (bits) who MAY: nobody else's is looked at. */
        private void findTurns(int bus, int may) {
            for (int place = 0; place < stand.waiting; place++) {
                int soul = stand.row[place];
                if ((may & (1 << soul)) != 0) {
                    look(soul, place, told.fare[bus]);
                    long worth = told.laws.worth(TURN_LAW, values);
                    turns[soul] = worth == ERROR ? 0 : (int) Math.max(-MOST_TURN, Math.min(MOST_TURN, worth));
                }
            }
        }

        /** The PLACE of the one who gets on next; NONE: nobody can. */
        private int firstToBoard(int may) {
            int best = NONE;
            int least = 0;
            for (int place = 0; place < stand.waiting; place++) {
                int soul = stand.row[place];
                boolean isLetting = otherwise != NOBODY_LETS && (told.lets[soul] & may) != 0;
                if ((may & (1 << soul)) != 0 && !isLetting && (best == NONE || turns[soul] < least)) {
                    best = place;
                    least = turns[soul];
                }
            }
            return best;
        }

        private boolean rains() {
            if (!draws) {
                return told.rain >= 50;
            }
            if (told.rain == 0 || told.rain == 100) {
                return told.rain == 100;
            }
            stand.number = (int) ((stand.number * 1103515245L + 12345L) & 0x7fffffffL);
            return stand.number / 65536 % 100 < told.rain;
        }

        private void soak() {
            for (int place = told.seats; place < stand.waiting; place++) {
                int soul = stand.row[place];
                look(soul, place, 0);
                long worth = told.laws.worth(SOAK_LAW, values);
                int more = worth == ERROR ? 1 : (int) Math.max(0, Math.min(MOST_SOAK, worth));
                stand.wet[soul] = Math.min(stand.wet[soul] + more, MOST_WET);
            }
        }

        /** The NAMES are those of a SOUL at a PLACE then, for a FARE. */
        void look(int soul, int place, int fare) {
            values[0] = told.kindness[soul];
            values[1] = stand.coins[soul];
            values[2] = stand.wet[soul];
            values[3] = stand.minute - told.died[soul];
            values[4] = fare;
            values[5] = place;
            values[6] = stand.minute;
        }
    }

    /** What was done by call and can be undone, the latest last. */
    private static final class Deeds {
        static final int MOVED = 0;
        static final int GIVEN = 1;
        static final int WALKED_OFF = 2;

        private final int[] kinds = new int[MOST_DEEDS];
        private final int[] souls = new int[MOST_DEEDS];
        /** The PLACE or the COINS that a SOUL had ahead of it. */
        private final int[] formers = new int[MOST_DEEDS];
        int size = 0;

        void note(int kind, int soul, int former) {
            if (size >= MOST_DEEDS) {
                forgetOldest();
            }
            kinds[size] = kind;
            souls[size] = soul;
            formers[size] = former;
            size++;
        }

        private void forgetOldest() {
            size = MOST_DEEDS - 1;
            for (int i = 0; i < size; i++) {
                kinds[i] = kinds[i + 1];
                souls[i] = souls[i + 1];
                formers[i] = formers[i + 1];
            }
        }

        void undoLast(Stand stand) {
            if (size < 1) {
                return;
            }
            size--;
            int soul = souls[size];
            switch (kinds[size]) {
                case GIVEN:
                    stand.coins[soul] = formers[size];
                    break;
                case MOVED:
                    stand.takeOut(stand.placeOf(soul));
                    stand.putIn(soul, formers[size]);
                    break;
                default:
                    stand.putIn(soul, formers[size]);
                    break;
            }
        }
    }

    /** What was SEEN, and what strikes it. */
    private static final class Sightings {
        static final int WAS_GONE = 0;
        static final int WAS_NOT = 1;
        static final int STRIKES = 2;

        private final int[] minutes = new int[MOST_SEEN];
        /** The SOUL, or the one that is struck. */
        private final int[] whom = new int[MOST_SEEN];
        private final int[] kinds = new int[MOST_SEEN];
        int size = 0;
        /** -1: by all, those to come as well. */
        int knownBy = -1;

        void clear() {
            size = 0;
            knownBy = -1;
        }

        int add(int behind, int one, int kind) {
            if (size >= MOST_SEEN) {
                return NONE;
            }
            minutes[size] = behind;
            whom[size] = one;
            kinds[size] = kind;
            size++;
            return size - 1;
        }

        int knownMany() {
            return knownBy < 0 ? size : knownBy;
        }

        /** Those (bits) that are KNOWN, without those that strike. */
        int knownBits() {
            int struck = 0;
            int bits = 0;
            for (int i = Math.min(knownMany(), size) - 1; i >= 0; i--) {
                if ((struck & (1 << i)) == 0) {
                    if (kinds[i] == STRIKES) {
                        struck |= 1 << whom[i];
                    } else {
                        bits |= 1 << i;
                    }
                }
            }
            return bits;
        }

        int lastMinutes(int bits) {
            int last = 0;
            for (int i = 0; i < size; i++) {
                if ((bits & (1 << i)) != 0) {
                    last = Math.max(last, minutes[i]);
                }
            }
            return last;
        }

        /** Whether those of the bits that tell of this MINUTE are so, by where the SOULS are. */
        boolean areSo(int bits, int behind, int[] where) {
            for (int i = 0; i < size; i++) {
                boolean isMeant = (bits & (1 << i)) != 0 && minutes[i] == behind;
                if (isMeant && (where[whom[i]] == GONE) != (kinds[i] == WAS_GONE)) {
                    return false;
                }
            }
            return true;
        }
    }
}
