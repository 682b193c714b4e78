import java.util.Arrays;
import java.util.NoSuchElementException;

/** Monks without a bell, who get up at two if they have dreamt they should. */
public final class DreamMatins {
    public static final int NONE = -1;

    private static final int MOST_BYTES = 700;
    private static final int FED_BYTES = 20;
    private static final int MOST_ROOMS = 9;
    private static final int MOST_MONKS = 8;
    private static final int MOST_SLEEP = 99;
    private static final int MOST_FISH = 9;
    private static final int MOST_VERSE = 99;
    private static final int MOST_NUMBER = 9999;
    private static final int MOST_CHANGE = 50;
    private static final int VOICES = 4;
    private static final int TIRES_UNTOLD = 20;
    private static final int RESTS_UNTOLD = 10;
    private static final int UP_AT = 50;

    private static final int MOST_ACTS = 40;
    private static final int MOST_AT_ONCE = 20;
    private static final int LAST_NIGHT = 999;
    private static final int AHEAD = 60;
    private static final int MOST_STEPS = 80;

    private static final int MOST_HEARD = 8;
    private static final int HEARD_AHEAD = 20;
    private static final int GAME_NIGHTS = 10;
    private static final int GAME_FISH = 3;
    private static final int TOGETHER = 3;

    private static final int STATUSES = 3;
    private static final int REFUSED_TEXTS = 0;
    private static final int REFUSED_ACTS = 1;
    private static final int REFUSED_HEARD = 2;

    private static final int CANT_STAND = 1;
    private static final int TOO_MUCH = 2;
    private static final int UNTOLD = 3;
    private static final int TWICE = 5;

    private static final Word[] WORDS = Word.values();

    private final byte[] tape = new byte[MOST_BYTES];
    private int tapeSize = 0;
    private int faultPlace = NONE;
    private final Reader reader = new Reader();
    private final Night night = new Night();
    private final House home = night.home;
    private final Book book = new Book();
    private final Book kept = new Book();
    private boolean hasImage = false;
    /** What would be: questions change this one, never the book's. */
    private final State trial = new State();
    private final int[] tally = new int[MOST_VERSE + 1];
    private final int[] pairs = new int[1 << MOST_MONKS];
    private final int[] gains = new int[8];
    private final int[] songs = new int[MOST_MONKS * MOST_FISH * HEARD_AHEAD];

    public DreamMatins() {
    }

    // ---- the text ----

    public int feed(int a, int b, int c, int d, int e) {
        if (tapeSize > MOST_BYTES - FED_BYTES) {
            return NONE;
        }
        putBytes(a);
        putBytes(b);
        putBytes(c);
        putBytes(d);
        putBytes(e);
        return tapeSize;
    }

    private void putBytes(int number) {
        for (int shift = 24; shift >= 0 && tapeSize < MOST_BYTES; shift -= 8) {
            tape[tapeSize] = (byte) (number >> shift);
            tapeSize++;
        }
    }

    public int house(int n) throws IllegalArgumentException {
        needWithin(n, 0, tapeSize);
        int fault = reader.readText(tape, n);
        tapeSize = 0;
        if (fault != 0) {
            faultPlace = reader.place;
            book.refused[REFUSED_TEXTS]++;
            return fault;
        }
        faultPlace = NONE;
        home.takeOver(reader.told);
        book.state.takeOver(reader.first);
        book.acts.clear();
        book.heard.clear();
        hasImage = false;
        return 0;
    }

    public int fault() {
        return faultPlace;
    }

    // ---- what there is ----

    public int count(int what) throws NoSuchElementException {
        State now = book.state;
        switch (what) {
            case 0: return home.rooms;
            case 1: return home.monks;
            case 2: return home.tires;
            case 3: return home.rests;
            case 4: return now.cells[State.NIGHT];
            case 5: return now.cells[State.LAST];
            case 6: return now.cells[State.TIED];
            case 7: return now.alone(home.monks);
            case 8: return now.metCouples(home.monks);
            case 9: return book.acts.size;
            case 10: return book.heard.size;
            case 11: return tapeSize;
            case 12: return book.refused[REFUSED_TEXTS];
            case 13: return book.refused[REFUSED_ACTS];
            case 14: return book.refused[REFUSED_HEARD];
            default: throw new NoSuchElementException();
        }
    }

    public int room(int room, int what) throws NoSuchElementException {
        needRoom(room);
        needWhat(what, 3);
        switch (what) {
            case 0: return home.verse[room];
            case 1: return book.state.cells[State.DOOR + room];
            case 2: return book.state.cells[State.WET + room];
            default: return book.state.within(room, home.monks);
        }
    }

    public int monk(int monk, int what) throws NoSuchElementException {
        needMonk(monk);
        needWhat(what, 5);
        State now = book.state;
        switch (what) {
            case 0: return home.voice[monk];
            case 1: return now.cells[State.SLEEP + monk];
            case 2: return now.cells[State.FISH + monk];
            case 3: return now.cells[State.ROOM + monk];
            case 4: return now.cells[State.MET + monk];
            default: return night.rises(now, monk) ? 1 : 0;
        }
    }

    // ---- acts ----

    public int nights(int many) {
        State now = book.state;
        if (many < 1 || many > MOST_AT_ONCE || now.cells[State.NIGHT] + many > LAST_NIGHT) {
            return refusedAct();
        }
        book.acts.keep(now);
        for (int i = 0; i < many; i++) {
            night.pass(now);
        }
        return now.cells[State.NIGHT];
    }

    public int fish(int monk, int more) throws NoSuchElementException {
        needMonk(monk);
        if (more < 1 || more > MOST_FISH) {
            return refusedAct();
        }
        book.acts.keep(book.state);
        book.state.addFish(monk, more);
        return book.state.cells[State.FISH + monk];
    }

    public int pray(int monk, int sleep) throws NoSuchElementException {
        needMonk(monk);
        if (sleep < 0 || sleep > MOST_SLEEP) {
            return refusedAct();
        }
        return changed(State.SLEEP + monk, sleep);
    }

    public boolean tie(int monk, boolean is) throws NoSuchElementException {
        needMonk(monk);
        int tied = book.state.cells[State.TIED];
        int then = is ? tied | 1 << monk : tied & ~(1 << monk);
        if (then == tied) {
            refusedAct();
            return false;
        }
        changed(State.TIED, then);
        return true;
    }

    public int move(int monk, int room) throws NoSuchElementException {
        needMonk(monk);
        needRoom(room);
        return changedToAnother(State.ROOM + monk, room);
    }

    public int door(int room, boolean wet, int to) throws NoSuchElementException {
        needRoom(room);
        needRoom(to);
        return changedToAnother((wet ? State.WET : State.DOOR) + room, to);
    }

    public int undo() {
        if (book.acts.size == 0) {
            return NONE;
        }
        book.acts.bringBack(book.state);
        return book.acts.size;
    }

    private int refusedAct() {
        book.refused[REFUSED_ACTS]++;
        return NONE;
    }

    private int changedToAnother(int cell, int value) {
        return book.state.cells[cell] == value ? refusedAct() : changed(cell, value);
    }

    /** An act on one cell; answers what was there. */
    private int changed(int cell, int value) {
        int was = book.state.cells[cell];
        book.acts.keep(book.state);
        book.state.cells[cell] = value;
        return was;
    }

    // ---- the nights from now on ----

    public int up(int k, int what) throws NoSuchElementException, IllegalArgumentException {
        needWhat(what, 2);
        needWithin(k, 1, AHEAD);
        goAhead(k);
        switch (what) {
            case 0: return night.risen;
            case 1: return night.matins();
            default: return night.missing();
        }
    }

    public int then(int monk, int nights, int what) throws NoSuchElementException, IllegalArgumentException {
        needMonk(monk);
        needWhat(what, 1);
        needWithin(nights, 0, AHEAD);
        goAhead(nights);
        return trial.cells[(what == 0 ? State.ROOM : State.SLEEP) + monk];
    }

    public int full() {
        beginTrial();
        for (int k = 1; k <= AHEAD; k++) {
            night.pass(trial);
            if (night.missing() == 0) {
                return k;
            }
        }
        return NONE;
    }

    public int meets(int monk, int other) throws NoSuchElementException {
        needMonk(monk);
        needMonk(other);
        if (monk == other) {
            return NONE;
        }
        beginTrial();
        for (int k = 0; k <= AHEAD; k++) {
            if ((trial.cells[State.MET + monk] >> other & 1) == 1) {
                return k;
            }
            night.pass(trial);
        }
        return NONE;
    }

    public int often(int monk, int nights) throws NoSuchElementException, IllegalArgumentException {
        needMonk(monk);
        needWithin(nights, 0, AHEAD);
        beginTrial();
        int times = 0;
        for (int i = 0; i < nights; i++) {
            night.pass(trial);
            times += night.risen >> monk & 1;
        }
        return times;
    }

    public int lonely(int k) throws IllegalArgumentException {
        needWithin(k, 1, AHEAD);
        goAhead(k);
        return night.singleSingers();
    }

    public int crowd(int nights) throws IllegalArgumentException {
        needWithin(nights, 0, AHEAD);
        goAhead(nights);
        int best = NONE;
        int most = 0;
        for (int room = 0; room < home.rooms; room++) {
            int there = Integer.bitCount(trial.within(room, home.monks));
            if (there > most) {
                most = there;
                best = room;
            }
        }
        return best;
    }

    public int spread(int nights) throws IllegalArgumentException {
        needWithin(nights, 0, AHEAD);
        goAhead(nights);
        int filled = 0;
        for (int room = 0; room < home.rooms; room++) {
            filled += trial.within(room, home.monks) == 0 ? 0 : 1;
        }
        return filled;
    }

    public int toPray(int monk, int k) throws NoSuchElementException, IllegalArgumentException {
        needMonk(monk);
        needWithin(k, 1, AHEAD);
        for (int sleep = 0; sleep <= MOST_SLEEP; sleep++) {
            beginTrial();
            trial.cells[State.SLEEP + monk] = sleep;
            passNights(k);
            if ((night.risen >> monk & 1) == 1) {
                return sleep;
            }
        }
        return NONE;
    }

    public int needless(int nights) throws IllegalArgumentException {
        needWithin(nights, 0, AHEAD);
        int fullNow = fullWith(0, nights);
        int bits = 0;
        for (int monk = 0; monk < home.monks; monk++) {
            boolean loose = (book.state.cells[State.TIED] >> monk & 1) == 0;
            if (loose && fullWith(1 << monk, nights) >= fullNow) {
                bits |= 1 << monk;
            }
        }
        return bits;
    }

    private int fullWith(int tiedToo, int nights) {
        beginTrial();
        trial.cells[State.TIED] |= tiedToo;
        int full = 0;
        for (int i = 0; i < nights; i++) {
            night.pass(trial);
            full += night.missing() == 0 ? 1 : 0;
        }
        return full;
    }

    public int psalm(int nights) throws IllegalArgumentException {
        needWithin(nights, 0, AHEAD);
        beginTrial();
        Arrays.fill(tally, 0);
        for (int i = 0; i < nights; i++) {
            night.pass(trial);
            night.countVerses(tally);
        }
        int best = NONE;
        int most = 0;
        for (int verse = 0; verse <= MOST_VERSE; verse++) {
            if (tally[verse] > most) {
                most = tally[verse];
                best = verse;
            }
        }
        return best;
    }

    public int silent() {
        beginTrial();
        for (int k = 1; k <= AHEAD; k++) {
            night.pass(trial);
            if (night.risen == 0) {
                return k;
            }
        }
        return NONE;
    }

    private void beginTrial() {
        trial.takeOver(book.state);
    }

    private void passNights(int many) {
        for (int i = 0; i < many; i++) {
            night.pass(trial);
        }
    }

    private void goAhead(int many) {
        beginTrial();
        passNights(many);
    }

    // ---- rooms ----

    public int ring(int room, boolean wet, int what) throws NoSuchElementException {
        needRoom(room);
        needWhat(what, 1);
        int doors = wet ? State.WET : State.DOOR;
        int ringRooms = ringBits(doors, room);
        return what == 0 ? Integer.bitCount(ringRooms) : stepsInto(ringRooms, doors, room);
    }

    private int ringBits(int doors, int room) {
        int at = room;
        for (int i = 0; i < home.rooms; i++) {
            at = book.state.cells[doors + at];
        }
        int bits = 0;
        for (int i = 0; i < home.rooms; i++) {
            bits |= 1 << at;
            at = book.state.cells[doors + at];
        }
        return bits;
    }

    private int stepsInto(int bits, int doors, int room) {
        int at = room;
        int steps = 0;
        while (steps < home.rooms && (bits >> at & 1) == 0) {
            at = book.state.cells[doors + at];
            steps++;
        }
        return steps;
    }

    public int from(int room) throws NoSuchElementException {
        needRoom(room);
        int reached = 1 << room;
        for (int i = 0; i < home.rooms; i++) {
            reached |= stepFrom(reached);
        }
        return reached;
    }

    /** The rooms into which one step leads from any of these, by either door. */
    private int stepFrom(int bits) {
        int next = 0;
        for (int room = 0; room < home.rooms; room++) {
            if ((bits >> room & 1) == 1) {
                next |= 1 << book.state.cells[State.DOOR + room];
                next |= 1 << book.state.cells[State.WET + room];
            }
        }
        return next;
    }

    public int meeting(int what) throws NoSuchElementException {
        needWhat(what, 1);
        for (int monk = 0; monk < home.monks; monk++) {
            tally[monk] = 1 << book.state.cells[State.ROOM + monk];
        }
        for (int steps = 0; steps <= MOST_STEPS; steps++) {
            int common = (1 << home.rooms) - 1;
            for (int monk = 0; monk < home.monks; monk++) {
                common &= tally[monk];
                tally[monk] = stepFrom(tally[monk]);
            }
            if (common != 0) {
                return what == 0 ? Integer.numberOfTrailingZeros(common) : steps;
            }
        }
        return NONE;
    }

    // ---- monks ----

    public int leastFish(int monk) throws NoSuchElementException {
        if (monk != NONE) {
            needMonk(monk);
        }
        int total = 0;
        int share = 0;
        int voices = home.voices();
        for (int voice = 0; voice < VOICES; voice++) {
            if ((voices >> voice & 1) == 1) {
                int eater = cheapestRiser(voice);
                if (eater == NONE) {
                    return NONE;
                }
                int more = fishToRise(eater);
                total += more;
                share += eater == monk ? more : 0;
            }
        }
        return monk == NONE ? total : share;
    }

    /** Of like ones the last: so the monks ahead have fewer, as the first row wants. */
    private int cheapestRiser(int voice) {
        int best = NONE;
        int least = MOST_FISH + 1;
        for (int monk = 0; monk < home.monks; monk++) {
            if (home.voice[monk] == voice) {
                int more = fishToRise(monk);
                if (more != NONE && more <= least) {
                    least = more;
                    best = monk;
                }
            }
        }
        return best;
    }

    private int fishToRise(int monk) {
        beginTrial();
        int has = book.state.cells[State.FISH + monk];
        for (int fish = has; fish <= MOST_FISH; fish++) {
            trial.cells[State.FISH + monk] = fish;
            if (night.rises(trial, monk)) {
                return fish - has;
            }
        }
        return NONE;
    }

    public int choir() {
        int voices = 0;
        int bits = 0;
        for (int monk = 0; monk < home.monks; monk++) {
            int voice = 1 << home.voice[monk];
            if ((voices & voice) == 0) {
                voices |= voice;
                bits |= 1 << monk;
            }
        }
        return bits;
    }

    public int couples() {
        int all = (1 << home.monks) - 1;
        pairs[0] = 0;
        for (int among = 1; among <= all; among++) {
            pairs[among] = mostPairs(among);
        }
        return pairs[all];
    }

    /** The first of these monks stays single, or is in a couple with one whom he met. */
    private int mostPairs(int among) {
        int first = Integer.numberOfTrailingZeros(among);
        int rest = among & ~(1 << first);
        int most = pairs[rest];
        int others = rest & book.state.cells[State.MET + first];
        for (int other = 0; other < home.monks; other++) {
            if ((others >> other & 1) == 1) {
                most = Math.max(most, 1 + pairs[rest & ~(1 << other)]);
            }
        }
        return most;
    }

    // ---- what is heard ----

    public int hear(int k, int verse, boolean is) {
        Heard heard = book.heard;
        boolean told = k >= 1 && k <= HEARD_AHEAD && verse >= 0 && verse <= MOST_VERSE;
        if (!told || heard.size >= MOST_HEARD) {
            book.refused[REFUSED_HEARD]++;
            return NONE;
        }
        heard.add(k, verse, is);
        return heard.size;
    }

    public int eaten(int what) throws NoSuchElementException {
        needWhat(what, 2);
        if (what == 2) {
            beginTrial();
            return heardInTrial() ? 1 : 0;
        }
        int many = 0;
        int first = NONE;
        for (int monk = 0; monk < home.monks; monk++) {
            for (int fish = 0; fish <= MOST_FISH; fish++) {
                if (couldHaveEaten(monk, fish)) {
                    first = many == 0 ? 10 * monk + fish : first;
                    many++;
                }
            }
        }
        return what == 0 ? many : first;
    }

    private boolean couldHaveEaten(int monk, int fish) {
        if (book.state.cells[State.FISH + monk] == fish) {
            return false;
        }
        beginTrial();
        trial.cells[State.FISH + monk] = fish;
        return heardInTrial();
    }

    private boolean heardInTrial() {
        int last = book.heard.lastNight();
        for (int k = 1; k <= last; k++) {
            night.pass(trial);
            if (!book.heard.agrees(night, k)) {
                return false;
            }
        }
        return true;
    }

    public int listen(int what) throws NoSuchElementException {
        needWhat(what, 1);
        int many = 0;
        for (int monk = 0; monk < home.monks; monk++) {
            for (int fish = 0; fish <= MOST_FISH; fish++) {
                if (couldHaveEaten(monk, fish)) {
                    noteSongs(monk, fish, many * HEARD_AHEAD);
                    many++;
                }
            }
        }
        int best = NONE;
        int most = 0;
        for (int k = 1; k <= HEARD_AHEAD; k++) {
            int unlike = unlikeSongs(k, many);
            if (unlike > most) {
                most = unlike;
                best = k;
            }
        }
        return what == 0 ? best : most;
    }

    private void noteSongs(int monk, int fish, int place) {
        beginTrial();
        trial.cells[State.FISH + monk] = fish;
        for (int i = 0; i < HEARD_AHEAD && place + i < songs.length; i++) {
            night.pass(trial);
            songs[place + i] = night.matins();
        }
    }

    private int unlikeSongs(int k, int many) {
        int unlike = 0;
        for (int i = 0; i < many; i++) {
            boolean isNew = true;
            for (int j = 0; j < i && isNew; j++) {
                isNew = songs[j * HEARD_AHEAD + k - 1] != songs[i * HEARD_AHEAD + k - 1];
            }
            unlike += isNew ? 1 : 0;
        }
        return unlike;
    }

    public void forget() {
        book.heard.clear();
    }

    // ---- a game, and years ----

    public int game(int monk, int other, int what) throws NoSuchElementException, IllegalArgumentException {
        needMonk(monk);
        needMonk(other);
        needWhat(what, 1);
        if (monk == other) {
            throw new IllegalArgumentException();
        }
        for (int choices = 0; choices < 4; choices++) {
            play(monk, other, choices);
        }
        int many = 0;
        int first = NONE;
        for (int choices = 0; choices < 4; choices++) {
            if (atRest(choices)) {
                first = many == 0 ? 10 * (choices >> 1) + (choices & 1) : first;
                many++;
            }
        }
        return what == 0 ? many : first;
    }

    /** Choices: bit 1 is the first one's, bit 0 the other one's. */
    private void play(int monk, int other, int choices) {
        beginTrial();
        int gain = choose(monk, choices >> 1);
        int otherGain = choose(other, choices & 1);
        for (int i = 0; i < GAME_NIGHTS; i++) {
            night.pass(trial);
            boolean both = night.sangTogether(monk, other);
            gain += (night.risen >> monk & 1) + (both ? TOGETHER : 0);
            otherGain += (night.risen >> other & 1) + (both ? TOGETHER : 0);
        }
        gains[2 * choices] = gain;
        gains[2 * choices + 1] = otherGain;
    }

    private int choose(int monk, int choice) {
        if (choice == 0) {
            trial.addFish(monk, GAME_FISH);
            return -1;
        }
        trial.cells[State.SLEEP + monk] = MOST_SLEEP;
        return 0;
    }

    private boolean atRest(int choices) {
        return gains[2 * choices] >= gains[2 * (choices ^ 2)]
            && gains[2 * choices + 1] >= gains[2 * (choices ^ 1) + 1];
    }

    public int years(int seed, int n, int what) throws NoSuchElementException, IllegalArgumentException {
        needWhat(what, 2);
        needWithin(n, 0, AHEAD);
        beginTrial();
        int lot = seed;
        int full = 0;
        int sung = 0;
        for (int i = 0; i < n; i++) {
            lot = chance(lot);
            night.pass(trial);
            full += night.missing() == 0 ? 1 : 0;
            sung += night.matins();
        }
        switch (what) {
            case 0: return full;
            case 1: return sung;
            default: return trial.metCouples(home.monks);
        }
    }

    /** What comes ahead of a night of the years; answers the seed behind it. */
    private int chance(int seed) {
        int lot = nextSeed(seed);
        int event = drawn(lot) % 5;
        if (event > 1 || home.monks == 0) {
            return lot;
        }
        lot = nextSeed(lot);
        int monk = drawn(lot) % home.monks;
        if (event == 0) {
            trial.addFish(monk, 2);
        } else {
            trial.cells[State.SLEEP + monk] = MOST_SLEEP;
        }
        return lot;
    }

    private static int nextSeed(int seed) {
        return seed * 1103515245 + 12345;
    }

    private static int drawn(int seed) {
        return seed >> 16 & 32767;
    }

    // ---- the image ----

    public void image() {
        kept.takeOver(book);
        hasImage = true;
    }

    public boolean restore() {
        if (hasImage) {
            book.takeOver(kept);
        }
        return hasImage;
    }

    // ---- what a call needs ----

    private void needMonk(int monk) {
        if (monk < 0 || monk >= home.monks) {
            throw new NoSuchElementException();
        }
    }

    private void needRoom(int room) {
        if (room < 0 || room >= home.rooms) {
            throw new NoSuchElementException();
        }
    }

    private static void needWhat(int what, int most) {
        if (what < 0 || what > most) {
            throw new NoSuchElementException();
        }
    }

    private static void needWithin(int number, int least, int most) {
        if (number < least || number > most) {
            throw new IllegalArgumentException();
        }
    }

    /** What a text tells once and for all. */
    private static final class House {
        int rooms = 0;
        int monks = 0;
        int tires = TIRES_UNTOLD;
        int rests = RESTS_UNTOLD;
        final int[] verse = new int[MOST_ROOMS];
        final int[] voice = new int[MOST_MONKS];
        final Rule dreams = new Rule();

        void clear() {
            rooms = 0;
            monks = 0;
            tires = TIRES_UNTOLD;
            rests = RESTS_UNTOLD;
            dreams.size = 0;
        }

        void takeOver(House other) {
            rooms = other.rooms;
            monks = other.monks;
            tires = other.tires;
            rests = other.rests;
            System.arraycopy(other.verse, 0, verse, 0, MOST_ROOMS);
            System.arraycopy(other.voice, 0, voice, 0, MOST_MONKS);
            dreams.takeOver(other.dreams);
        }

        int voices() {
            int bits = 0;
            for (int monk = 0; monk < monks; monk++) {
                bits |= 1 << voice[monk];
            }
            return bits;
        }
    }

    /** All that nights and acts change, in one row: it is kept and brought back by one copy. */
    private static final class State {
        static final int SLEEP = 0;
        static final int FISH = SLEEP + MOST_MONKS;
        static final int ROOM = FISH + MOST_MONKS;
        static final int MET = ROOM + MOST_MONKS;
        static final int DOOR = MET + MOST_MONKS;
        static final int WET = DOOR + MOST_ROOMS;
        static final int TIED = WET + MOST_ROOMS;
        static final int LAST = TIED + 1;
        static final int NIGHT = LAST + 1;
        static final int SIZE = NIGHT + 1;

        final int[] cells = new int[SIZE];

        void clear() {
            Arrays.fill(cells, 0);
        }

        void takeOver(State other) {
            System.arraycopy(other.cells, 0, cells, 0, SIZE);
        }

        void addFish(int monk, int more) {
            cells[FISH + monk] = Math.min(MOST_FISH, cells[FISH + monk] + more);
        }

        int within(int room, int monks) {
            int bits = 0;
            for (int monk = 0; monk < monks; monk++) {
                if (cells[ROOM + monk] == room) {
                    bits |= 1 << monk;
                }
            }
            return bits;
        }

        int alone(int monks) {
            int bits = 0;
            for (int monk = 0; monk < monks; monk++) {
                if (cells[MET + monk] == 0) {
                    bits |= 1 << monk;
                }
            }
            return bits;
        }

        int metCouples(int monks) {
            int sides = 0;
            for (int monk = 0; monk < monks; monk++) {
                sides += Integer.bitCount(cells[MET + monk]);
            }
            return sides / 2;
        }
    }

    /** One night of a house, and what was to be seen in it. */
    private static final class Night {
        final House home = new House();
        private final int[] values = new int[Rule.VALUES];
        /** Where each one was when the night began: behind it some are elsewhere. */
        private final int[] stood = new int[MOST_MONKS];
        int risen = 0;

        boolean rises(State state, int monk) {
            if ((state.cells[State.TIED] >> monk & 1) == 1) {
                return false;
            }
            if (home.dreams.size == 0) {
                return state.cells[State.SLEEP + monk] >= UP_AT;
            }
            lookAt(state, monk);
            return home.dreams.valueBy(values) > 0;
        }

        private void lookAt(State state, int monk) {
            int room = state.cells[State.ROOM + monk];
            values[Rule.SLEEP - Rule.SLEEP] = state.cells[State.SLEEP + monk];
            values[Rule.SLEEP - Rule.FISH] = state.cells[State.FISH + monk];
            values[Rule.SLEEP - Rule.VOICE] = home.voice[monk];
            values[Rule.SLEEP - Rule.ROOM] = room;
            values[Rule.SLEEP - Rule.VERSE] = home.verse[room];
            values[Rule.SLEEP - Rule.NIGHT] = state.cells[State.NIGHT];
            values[Rule.SLEEP - Rule.MET] = Integer.bitCount(state.within(room, home.monks)) - 1;
            values[Rule.SLEEP - Rule.LAST] = state.cells[State.LAST] >> monk & 1;
        }

        void pass(State state) {
            int[] cells = state.cells;
            risen = 0;
            for (int monk = 0; monk < home.monks; monk++) {
                stood[monk] = cells[State.ROOM + monk];
                risen |= rises(state, monk) ? 1 << monk : 0;
            }
            for (int monk = 0; monk < home.monks; monk++) {
                if ((risen >> monk & 1) == 1) {
                    cells[State.MET + monk] |= singersIn(stood[monk]) & ~(1 << monk);
                    tire(cells, monk);
                } else {
                    int rested = cells[State.SLEEP + monk] + home.rests;
                    cells[State.SLEEP + monk] = Math.min(MOST_SLEEP, rested);
                }
                cells[State.FISH + monk] = Math.max(0, cells[State.FISH + monk] - 1);
            }
            cells[State.LAST] = risen;
            cells[State.NIGHT]++;
        }

        private void tire(int[] cells, int monk) {
            int doors = cells[State.FISH + monk] > 0 ? State.WET : State.DOOR;
            cells[State.SLEEP + monk] = Math.max(0, cells[State.SLEEP + monk] - home.tires);
            cells[State.ROOM + monk] = cells[doors + stood[monk]];
        }

        private int singersIn(int room) {
            int bits = 0;
            for (int monk = 0; monk < home.monks; monk++) {
                if ((risen >> monk & 1) == 1 && stood[monk] == room) {
                    bits |= 1 << monk;
                }
            }
            return bits;
        }

        int matins() {
            int sum = 0;
            for (int monk = 0; monk < home.monks; monk++) {
                sum += (risen >> monk & 1) * home.verse[stood[monk]];
            }
            return sum;
        }

        int missing() {
            int there = 0;
            for (int monk = 0; monk < home.monks; monk++) {
                there |= (risen >> monk & 1) << home.voice[monk];
            }
            return home.voices() & ~there;
        }

        int singleSingers() {
            int bits = 0;
            for (int monk = 0; monk < home.monks; monk++) {
                if (singersIn(stood[monk]) == 1 << monk) {
                    bits |= 1 << monk;
                }
            }
            return bits;
        }

        boolean sangTogether(int monk, int other) {
            int both = 1 << monk | 1 << other;
            return (risen & both) == both && stood[monk] == stood[other];
        }

        boolean wasSung(int verse) {
            boolean sung = false;
            for (int monk = 0; monk < home.monks; monk++) {
                sung |= (risen >> monk & 1) == 1 && home.verse[stood[monk]] == verse;
            }
            return sung;
        }

        void countVerses(int[] tally) {
            for (int monk = 0; monk < home.monks; monk++) {
                tally[home.verse[stood[monk]]] += risen >> monk & 1;
            }
        }
    }

    /** The states ahead of the latest acts, in a ring. */
    private static final class Acts {
        private final int[] rows = new int[MOST_ACTS * State.SIZE];
        private int first = 0;
        int size = 0;

        void clear() {
            size = 0;
        }

        void takeOver(Acts other) {
            System.arraycopy(other.rows, 0, rows, 0, rows.length);
            first = other.first;
            size = other.size;
        }

        void keep(State state) {
            if (size == MOST_ACTS) {
                first = (first + 1) % MOST_ACTS;
                size--;
            }
            System.arraycopy(state.cells, 0, rows, placeBehind(), State.SIZE);
            size++;
        }

        void bringBack(State state) {
            if (size > 0) {
                size--;
                System.arraycopy(rows, placeBehind(), state.cells, 0, State.SIZE);
            }
        }

        private int placeBehind() {
            return (first + size) % MOST_ACTS * State.SIZE;
        }
    }

    private static final class Heard {
        private final int[] night = new int[MOST_HEARD];
        private final int[] verse = new int[MOST_HEARD];
        private final boolean[] sung = new boolean[MOST_HEARD];
        int size = 0;

        void clear() {
            size = 0;
        }

        void takeOver(Heard other) {
            size = other.size;
            for (int i = 0; i < size; i++) {
                night[i] = other.night[i];
                verse[i] = other.verse[i];
                sung[i] = other.sung[i];
            }
        }

        void add(int k, int aVerse, boolean is) {
            if (size < MOST_HEARD) {
                night[size] = k;
                verse[size] = aVerse;
                sung[size] = is;
                size++;
            }
        }

        int lastNight() {
            int last = 0;
            for (int i = 0; i < size; i++) {
                last = Math.max(last, night[i]);
            }
            return last;
        }

        boolean agrees(Night passed, int k) {
            for (int i = 0; i < size; i++) {
                if (night[i] == k && passed.wasSung(verse[i]) != sung[i]) {
                    return false;
                }
            }
            return true;
        }
    }

    /** All that an image keeps. */
    private static final class Book {
        final State state = new State();
        final Acts acts = new Acts();
        final Heard heard = new Heard();
        final int[] refused = new int[STATUSES];

        void takeOver(Book other) {
            state.takeOver(other.state);
            acts.takeOver(other.acts);
            heard.takeOver(other.heard);
            System.arraycopy(other.refused, 0, refused, 0, STATUSES);
        }
    }

    /** Dreams, operators behind what they join: a night needs no recursion then. */
    private static final class Rule {
        /** A number stands for itself; the values lie side by side, from sleep to last. */
        static final int SLEEP = -2;
        static final int FISH = -3;
        static final int VOICE = -4;
        static final int ROOM = -5;
        static final int VERSE = -6;
        static final int NIGHT = -7;
        static final int MET = -8;
        static final int LAST = -9;
        static final int NOT = -10;
        static final int OR = -11;
        static final int AND = -12;
        static final int LESS = -13;
        static final int EQUAL = -14;
        static final int PLUS = -15;
        static final int MINUS = -16;
        static final int TIMES = -17;
        static final int BY = -18;
        /** Six rules one in another with five kinds of open operators each, and room to spare. */
        private static final int DEEPEST = 40;
        static final int VALUES = 8;

        private final int[] steps = new int[MOST_BYTES];
        private final int[] stack = new int[DEEPEST];
        int size = 0;

        void takeOver(Rule other) {
            System.arraycopy(other.steps, 0, steps, 0, MOST_BYTES);
            size = other.size;
        }

        void put(int step) {
            if (size < MOST_BYTES) {
                steps[size] = step;
                size++;
            }
        }

        int valueBy(int[] values) {
            int top = 0;
            for (int i = 0; i < size; i++) {
                int step = steps[i];
                if (step <= OR) {
                    if (top >= 2) {
                        top--;
                        stack[top - 1] = joined(step, stack[top - 1], stack[top]);
                    }
                } else if (step == NOT) {
                    if (top >= 1) {
                        stack[top - 1] = stack[top - 1] == 0 ? 1 : 0;
                    }
                } else if (top < DEEPEST) {
                    stack[top] = step >= 0 ? step : values[SLEEP - step];
                    top++;
                }
            }
            return stack[0];
        }

        private static int joined(int step, int left, int right) {
            switch (step) {
                case OR: return left != 0 || right != 0 ? 1 : 0;
                case AND: return left != 0 && right != 0 ? 1 : 0;
                case LESS: return left < right ? 1 : 0;
                case EQUAL: return left == right ? 1 : 0;
                case PLUS: return left + right;
                case MINUS: return left - right;
                case TIMES: return left * right;
                default: return right == 0 ? 0 : left / right;
            }
        }
    }

    private enum Word {
        OTHER("", NONE, NONE),
        ROOM("room", NONE, Rule.ROOM),
        BASS("bass", 0, NONE),
        TENOR("tenor", 1, NONE),
        ALTO("alto", 2, NONE),
        TREBLE("treble", 3, NONE),
        TIRES("tires", NONE, NONE),
        RESTS("rests", NONE, NONE),
        DREAMS("dreams", NONE, NONE),
        OR("or", NONE, NONE),
        AND("and", NONE, NONE),
        NOT("not", NONE, NONE),
        SLEEP("sleep", NONE, Rule.SLEEP),
        FISH("fish", NONE, Rule.FISH),
        VOICE("voice", NONE, Rule.VOICE),
        VERSE("verse", NONE, Rule.VERSE),
        NIGHT("night", NONE, Rule.NIGHT),
        MET("met", NONE, Rule.MET),
        LAST("last", NONE, Rule.LAST);

        final String letters;
        final int voice;
        final int value;

        Word(String letters, int voice, int value) {
            this.letters = letters;
            this.voice = voice;
            this.value = value;
        }
    }

    /** A text token by token; the one at hand is told by the fields. */
    private static final class Tokens {
        static final int END = 0;
        static final int WORD = 1;
        static final int NUMBER = 2;
        static final int SIGN = 3;
        private static final int MOST_DIGITS = 4;

        private final byte[] text = new byte[MOST_BYTES];
        private int length = 0;
        private int end = 0;
        int place = 0;
        int kind = END;
        /** OTHER, too, if the token is no word. */
        Word word = Word.OTHER;
        /** NONE if the token is no number, or one of more than four digits. */
        int number = NONE;
        /** 0 if the token is no sign. */
        int sign = 0;

        void begin(byte[] bytes, int many) {
            length = Math.max(0, Math.min(many, Math.min(bytes.length, MOST_BYTES)));
            System.arraycopy(bytes, 0, text, 0, length);
            end = 0;
            step();
        }

        void step() {
            place = end;
            while (place < length && (text[place] == ' ' || text[place] == '\n')) {
                place++;
            }
            end = place;
            word = Word.OTHER;
            number = NONE;
            sign = 0;
            if (place >= length) {
                kind = END;
            } else if (isLetter(text[place])) {
                readWord();
            } else if (isDigit(text[place])) {
                readNumber();
            } else {
                // A byte that is no token goes as a sign: it can stand nowhere.
                kind = SIGN;
                sign = text[place];
                end++;
            }
        }

        private void readWord() {
            kind = WORD;
            while (end < length && isLetter(text[end])) {
                end++;
            }
            for (int i = 0; i < WORDS.length; i++) {
                String letters = WORDS[i].letters;
                int same = 0;
                while (same < letters.length() && place + same < end
                        && letters.charAt(same) == text[place + same]) {
                    same++;
                }
                if (same == letters.length() && place + same == end) {
                    word = WORDS[i];
                }
            }
        }

        private void readNumber() {
            kind = NUMBER;
            int value = 0;
            while (end < length && isDigit(text[end])) {
                value = 10 * value + text[end] - '0';
                end++;
            }
            number = end - place > MOST_DIGITS ? NONE : value;
        }

        private static boolean isLetter(int sign) {
            return sign >= 'a' && sign <= 'z';
        }

        private static boolean isDigit(int sign) {
            return sign >= '0' && sign <= '9';
        }
    }

    /** Reads a text; each read.. method answers false at the first fault. */
    private static final class Reader {
        private static final int DEEPEST = 5;
        private static final int MOST_NOTS = 6;

        private final Tokens tokens = new Tokens();
        private boolean tiresTold = false;
        private boolean restsTold = false;
        private boolean dreamsTold = false;
        private int taken = 0;
        private int kind = 0;
        int place = NONE;
        final House told = new House();
        final State first = new State();

        /** 0, or the fault. */
        int readText(byte[] bytes, int many) {
            begin(bytes, many);
            for (int i = 0; i <= MOST_BYTES && tokens.kind != Tokens.END; i++) {
                if (!readLine()) {
                    return kind;
                }
            }
            for (int room = 0; room < told.rooms; room++) {
                first.cells[State.DOOR + room] %= told.rooms;
                first.cells[State.WET + room] %= told.rooms;
            }
            return 0;
        }

        private void begin(byte[] bytes, int many) {
            told.clear();
            first.clear();
            tiresTold = false;
            restsTold = false;
            dreamsTold = false;
            kind = 0;
            place = NONE;
            tokens.begin(bytes, many);
        }

        private boolean failed(int fault) {
            kind = fault;
            place = tokens.place;
            return false;
        }

        private boolean readLine() {
            Word word = tokens.word;
            boolean fine;
            if (word == Word.ROOM) {
                fine = readRoom();
            } else if (word.voice != NONE) {
                fine = readMonk(word.voice);
            } else if (word == Word.TIRES) {
                fine = readTires();
            } else if (word == Word.RESTS) {
                fine = readRests();
            } else if (word == Word.DREAMS) {
                fine = readDreams();
            } else {
                fine = failed(CANT_STAND);
            }
            return fine && readSign(';');
        }

        private boolean readRoom() {
            int room = told.rooms;
            if (room >= MOST_ROOMS) {
                return failed(TOO_MUCH);
            }
            tokens.step();
            if (!readNumber(0, MOST_VERSE)) {
                return false;
            }
            told.verse[room] = taken;
            if (!readNumber(0, MOST_ROOMS - 1)) {
                return false;
            }
            first.cells[State.DOOR + room] = taken;
            if (!readNumber(0, MOST_ROOMS - 1)) {
                return false;
            }
            first.cells[State.WET + room] = taken;
            told.rooms++;
            return true;
        }

        private boolean readMonk(int voice) {
            int monk = told.monks;
            if (monk >= MOST_MONKS) {
                return failed(TOO_MUCH);
            }
            tokens.step();
            told.voice[monk] = voice;
            if (!readNumber(0, MOST_SLEEP)) {
                return false;
            }
            first.cells[State.SLEEP + monk] = taken;
            if (!readNumber(0, MOST_FISH)) {
                return false;
            }
            first.cells[State.FISH + monk] = taken;
            if (tokens.number >= told.rooms) {
                return failed(UNTOLD);
            }
            if (!readNumber(0, MOST_NUMBER)) {
                return false;
            }
            first.cells[State.ROOM + monk] = taken;
            told.monks++;
            return true;
        }

        private boolean readTires() {
            if (tiresTold) {
                return failed(TWICE);
            }
            tiresTold = true;
            tokens.step();
            if (!readNumber(1, MOST_CHANGE)) {
                return false;
            }
            told.tires = taken;
            return true;
        }

        private boolean readRests() {
            if (restsTold) {
                return failed(TWICE);
            }
            restsTold = true;
            tokens.step();
            if (!readNumber(0, MOST_CHANGE)) {
                return false;
            }
            told.rests = taken;
            return true;
        }

        private boolean readDreams() {
            if (dreamsTold) {
                return failed(TWICE);
            }
            dreamsTold = true;
            tokens.step();
            return readExpr(0);
        }

        private boolean readSign(int sign) {
            if (tokens.sign != sign) {
                return failed(CANT_STAND);
            }
            tokens.step();
            return true;
        }

        private boolean readNumber(int least, int most) {
            if (tokens.kind != Tokens.NUMBER) {
                return failed(CANT_STAND);
            }
            if (tokens.number < least || tokens.number > most) {
                return failed(TOO_MUCH);
            }
            taken = tokens.number;
            tokens.step();
            return true;
        }

        /** Depth: within how many others this one is. */
        private boolean readExpr(int depth) {
            if (depth > DEEPEST) {
                return failed(beginsPart() ? TOO_MUCH : CANT_STAND);
            }
            boolean fine = readAnd(depth);
            for (int i = 0; i < MOST_BYTES && fine && tokens.word == Word.OR; i++) {
                tokens.step();
                fine = readAnd(depth);
                told.dreams.put(Rule.OR);
            }
            return fine;
        }

        private boolean beginsPart() {
            return tokens.kind == Tokens.NUMBER || tokens.kind == Tokens.WORD || tokens.sign == '(';
        }

        private boolean readAnd(int depth) {
            boolean fine = readNot(depth);
            for (int i = 0; i < MOST_BYTES && fine && tokens.word == Word.AND; i++) {
                tokens.step();
                fine = readNot(depth);
                told.dreams.put(Rule.AND);
            }
            return fine;
        }

        private boolean readNot(int depth) {
            int nots = 0;
            while (nots < MOST_NOTS && tokens.word == Word.NOT) {
                nots++;
                tokens.step();
            }
            if (nots == MOST_NOTS && tokens.word == Word.NOT) {
                return failed(TOO_MUCH);
            }
            if (!readTest(depth)) {
                return false;
            }
            for (int i = 0; i < nots; i++) {
                told.dreams.put(Rule.NOT);
            }
            return true;
        }

        private boolean readTest(int depth) {
            if (!readSum(depth)) {
                return false;
            }
            int sign = tokens.sign;
            if (sign != '<' && sign != '=') {
                return true;
            }
            tokens.step();
            boolean fine = readSum(depth);
            told.dreams.put(sign == '<' ? Rule.LESS : Rule.EQUAL);
            return fine;
        }

        private boolean readSum(int depth) {
            boolean fine = readProduct(depth);
            for (int i = 0; i < MOST_BYTES && fine && (tokens.sign == '+' || tokens.sign == '-'); i++) {
                int step = tokens.sign == '+' ? Rule.PLUS : Rule.MINUS;
                tokens.step();
                fine = readProduct(depth);
                told.dreams.put(step);
            }
            return fine;
        }

        private boolean readProduct(int depth) {
            boolean fine = readPart(depth);
            for (int i = 0; i < MOST_BYTES && fine && (tokens.sign == '*' || tokens.sign == '/'); i++) {
                int step = tokens.sign == '*' ? Rule.TIMES : Rule.BY;
                tokens.step();
                fine = readPart(depth);
                told.dreams.put(step);
            }
            return fine;
        }

        private boolean readPart(int depth) {
            if (tokens.sign == '(') {
                tokens.step();
                return readExpr(depth + 1) && readSign(')');
            }
            if (tokens.kind == Tokens.WORD) {
                return readValue();
            }
            if (!readNumber(0, MOST_NUMBER)) {
                return false;
            }
            told.dreams.put(taken);
            return true;
        }

        private boolean readValue() {
            if (tokens.word.value == NONE) {
                return failed(UNTOLD);
            }
            told.dreams.put(tokens.word.value);
            tokens.step();
            return true;
        }
    }
}
