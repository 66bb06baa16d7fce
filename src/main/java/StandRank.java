import java.util.Arrays;

/**
 * Precedence by the last to sit. The document (../shared/DOC.md) says what each call promises;
 * the words of the document (TRAY, NIGHT, ROOMS ..) are the names here.
 *
 * Everything that a call needs to reckon with is made once, in the constructor, and used again:
 * only court() makes new objects.
 */
public final class StandRank {
    public static final int NONE = -1;

    private static final int MOST_TEXT = 900;
    private static final int BYTES_A_FEED = 20;
    private static final int MOST_PEOPLE = 6;
    private static final int MOST_TUNES = 4;
    private static final int MOST_OFFICES = 6;
    private static final int MOST_STRENGTH = 99;
    private static final int MOST_WINE = 9;
    private static final int MOST_UNDONE = 10;
    private static final int MOST_NIGHT = 30;
    private static final int MOST_MUSIC = 7;
    private static final int MOST_CHANCE = 6;
    private static final int MOST_WAITING = 20;
    private static final int MOST_SEASON = 40;
    private static final int TRAYS = 4;
    private static final int TRAY_PLACES = 40;
    private static final int IMAGES = 2;

    private static final int NO_SUCH = -2;
    private static final int CANNOT_BE = -3;
    private static final int TOO_MANY = -4;
    private static final int NOT_NOW = -5;
    private static final int MISSING = -6;
    private static final int NO_NUMBER = -7;
    private static final int WHY_NOT = -10;
    private static final int FAULTY = -30;
    private static final int WIDE = -99000000;

    private static final int NO_SUCH_DEED = 1;
    private static final int IT_SITS = 2;

    private final byte[] tape = new byte[MOST_TEXT];
    private int taped;
    private final Reader reader = new Reader();
    private Court court = new Court();
    private final State state = new State();
    private final Past past = new Past();
    private final Tray[] trays = new Tray[TRAYS];
    private final Court[] imagedCourts = new Court[IMAGES];
    private final State[] imagedStates = new State[IMAGES];
    // Grows with every change, so that what was reckoned from the same version need not be again.
    private int version = 1;
    private int seedNow;
    private final State before = new State();
    private final State trial = new State();
    private final Night night = new Night();
    private final Music music;
    private final Chance chances;
    private final Waiting waiting = new Waiting();
    private final boolean[] fitting = new boolean[MOST_STRENGTH + 1];

    public StandRank() {
        for (int t = 0; t < TRAYS; t++) {
            trays[t] = new Tray();
        }
        for (int i = 0; i < IMAGES; i++) {
            imagedStates[i] = new State();
        }
        State[] levels = new State[MOST_MUSIC + 1];
        for (int k = 0; k < levels.length; k++) {
            levels[k] = new State();
        }
        music = new Music(levels);
        chances = new Chance(levels);
    }

    // ---- the court

    public int feed(int a, int b, int c, int d, int e) {
        if (taped + BYTES_A_FEED > MOST_TEXT) {
            return NOT_NOW;
        }
        putOnTape(a);
        putOnTape(b);
        putOnTape(c);
        putOnTape(d);
        putOnTape(e);
        return taped;
    }

    private void putOnTape(int four) {
        for (int shift = 24; shift >= 0 && taped < tape.length; shift -= 8) {
            tape[taped] = (byte) (four >> shift);
            taped++;
        }
    }

    public int court(int n) {
        if (n < 0 || n > taped) {
            return CANNOT_BE;
        }
        taped = 0;
        Court told = reader.readCourt(tape, n);
        if (told == null) {
            return FAULTY - reader.foundFault;
        }
        court = told;
        state.standInOrder(court);
        past.forget();
        version++;
        return court.lines;
    }

    public int fault(int what) {
        if (what == 0) {
            return reader.foundFault;
        }
        return what == 1 ? reader.foundAt : NONE;
    }

    public int person(int p, int what) {
        if (noPerson(p)) {
            return WIDE + NO_SUCH;
        }
        switch (what) {
            case 0: return state.strength[p];
            case 1: return court.mark[p];
            case 2: return state.isUp(p) ? 1 : 0;
            case 3: return state.spotOf[p];
            case 4: return state.placeOf(p);
            case 5: return state.pain[p];
            case 6: return state.isUp(p) ? NONE : state.satIn[p];
            default: return WIDE + NO_SUCH;
        }
    }

    public int tires(int p, int tune) {
        if (noPerson(p) || noTune(tune)) {
            return NO_SUCH;
        }
        return state.isUp(p) ? court.tiring(state, p, tune) : 0;
    }

    public int office(int place) {
        return place < 0 || place >= MOST_OFFICES ? NO_SUCH : court.office[place];
    }

    public int spot(int k) {
        return noPerson(k) ? NO_SUCH : state.personOn[k];
    }

    private boolean noPerson(int p) {
        return p < 0 || p >= court.people;
    }

    private boolean noTune(int tune) {
        return tune < 0 || tune >= court.tunes;
    }

    // ---- deeds

    public int play(int tune) {
        before.copyFrom(state);
        int why = doMinute(state, tune);
        if (why != 0) {
            return WHY_NOT - why;
        }
        keepForUndo();
        return before.howManyUp() - state.howManyUp();
    }

    public int sit(int p) {
        before.copyFrom(state);
        int why = doSit(state, p);
        if (why != 0) {
            return WHY_NOT - why;
        }
        keepForUndo();
        return state.placeOf(p);
    }

    public int change(int p, int q) {
        before.copyFrom(state);
        int why = doChange(state, p, q);
        if (why != 0) {
            return WHY_NOT - why;
        }
        keepForUndo();
        return state.spotOf[p];
    }

    public int wine(int p, int n) {
        before.copyFrom(state);
        int why = doWine(state, p, n);
        if (why != 0) {
            return WHY_NOT - why;
        }
        keepForUndo();
        return state.strength[p];
    }

    public int evening() {
        before.copyFrom(state);
        state.standAgain(court);
        keepForUndo();
        return before.minutes;
    }

    public int undo(int n) {
        if (n < 1 || n > past.held) {
            return CANNOT_BE;
        }
        past.bringBack(state, n);
        version++;
        return past.held;
    }

    public int judge(int tray, int what) {
        if (noTray(tray) || what < 0 || what > 3) {
            return NO_SUCH;
        }
        Tray told = trays[tray];
        if (told.isMissing()) {
            return MISSING;
        }
        trial.copyFrom(state);
        int done = doAll(trial, told);
        switch (what) {
            case 0: return done < told.size ? done : NONE;
            case 1: return done < told.size ? doDeed(trial, told.number[done]) : 0;
            case 2: return trial.up;
            default: return trial.firstInPlace();
        }
    }

    public int perform(int tray) {
        if (noTray(tray)) {
            return NO_SUCH;
        }
        if (trays[tray].isMissing()) {
            return MISSING;
        }
        before.copyFrom(state);
        int done = doAll(state, trays[tray]);
        if (done > 0) {
            keepForUndo();
        }
        return done;
    }

    public int season(int seed, int times) {
        if (times < 1 || times > MOST_SEASON) {
            return CANNOT_BE;
        }
        before.copyFrom(state);
        seedNow = seed;
        int done = 0;
        for (int k = 0; k < times; k++) {
            if (doDrawn(state) == 0) {
                done++;
            }
        }
        if (done > 0) {
            keepForUndo();
        }
        return done;
    }

    private void keepForUndo() {
        past.keep(before);
        version++;
    }

    /** How many deeds of a tray were done, up to the first that can't be. */
    private int doAll(State s, Tray told) {
        for (int i = 0; i < told.size; i++) {
            if (doDeed(s, told.number[i]) != 0) {
                return i;
            }
        }
        return told.size;
    }

    /** Why a deed can't be; 0: it was done. */
    private int doDeed(State s, long v) {
        if (v == NONE) {
            s.standAgain(court);
            return 0;
        }
        if (v < 0 || v > 299) {
            return NO_SUCH_DEED;
        }
        int deed = (int) v;
        if (deed < 10) {
            return doMinute(s, deed);
        }
        if (deed < 20) {
            return doSit(s, deed - 10);
        }
        if (deed < 100) {
            return NO_SUCH_DEED;
        }
        return deed < 200
            ? doChange(s, (deed - 100) / 10, deed % 10)
            : doWine(s, (deed - 200) / 10, deed % 10);
    }

    private int doDrawn(State s) {
        switch (draw() % 6) {
            case 3: return doSit(s, draw() % 6);
            case 4:
                int p = draw() % 6;
                return doChange(s, p, draw() % 6);
            case 5:
                s.standAgain(court);
                return 0;
            default: return doMinute(s, draw() % 4);
        }
    }

    private int draw() {
        seedNow = 1103515245 * seedNow + 12345;
        return seedNow >>> 16;
    }

    private int doMinute(State s, int tune) {
        if (noTune(tune)) {
            return NO_SUCH_DEED;
        }
        s.playMinute(court, tune, true);
        return 0;
    }

    private int doSit(State s, int p) {
        if (noPerson(p)) {
            return NO_SUCH_DEED;
        }
        if (!s.isUp(p)) {
            return IT_SITS;
        }
        s.seat(p);
        return 0;
    }

    private int doChange(State s, int p, int q) {
        if (noPerson(p) || noPerson(q) || p == q) {
            return NO_SUCH_DEED;
        }
        s.exchange(p, q);
        return 0;
    }

    private int doWine(State s, int p, int n) {
        if (noPerson(p) || n < 1 || n > MOST_WINE) {
            return NO_SUCH_DEED;
        }
        if (!s.isUp(p)) {
            return IT_SITS;
        }
        s.strength[p] = Math.min(s.strength[p] + n, MOST_STRENGTH);
        return 0;
    }

    // ---- nights

    public int stands(int tray, int p) {
        int code = readNightOfOneUp(tray, p);
        if (code != 0) {
            return code;
        }
        trial.copyFrom(state);
        return night.minutesUp(court, trial, p);
    }

    public int place(int tray, int p) {
        int code = readNight(tray, p);
        if (code != 0) {
            return code;
        }
        trial.copyFrom(state);
        night.playThrough(court, trial);
        return trial.placeOf(p);
    }

    public int breakfast(int tray) {
        int code = noTray(tray) ? NO_SUCH : readTunes(tray);
        if (code != 0) {
            return code;
        }
        trial.copyFrom(state);
        night.playThrough(court, trial);
        return trial.up;
    }

    public int worth(int tray, int p) {
        int code = readNight(tray, p);
        if (code != 0) {
            return WIDE + code;
        }
        return worthOfSitting(p, NONE);
    }

    public int bestSit(int tray, int p) {
        int code = readNightOfOneUp(tray, p);
        if (code != 0) {
            return WIDE + code;
        }
        int best = 0;
        int most = worthOfSitting(p, 0);
        for (int k = 1; k <= night.length; k++) {
            int now = worthOfSitting(p, k);
            if (now > most) {
                most = now;
                best = k;
            }
        }
        return best;
    }

    /** What the night is worth to one that sits down of its own behind so many minutes (NONE: never). */
    private int worthOfSitting(int p, int behind) {
        trial.copyFrom(state);
        for (int k = 0; k <= night.length; k++) {
            if (k == behind && trial.isUp(p)) {
                trial.seat(p);
            }
            if (k < night.length) {
                trial.playMinute(court, night.tune[k], true);
            }
        }
        return court.office[trial.placeOf(p)] - trial.pain[p];
    }

    private int readNightOfOneUp(int tray, int p) {
        int code = readNight(tray, p);
        return code == 0 && !state.isUp(p) ? NOT_NOW : code;
    }

    private int readNight(int tray, int p) {
        return noTray(tray) || noPerson(p) ? NO_SUCH : readTunes(tray);
    }

    private int readTunes(int tray) {
        return trays[tray].isMissing() ? MISSING : night.take(trays[tray], court.tunes);
    }

    private boolean noTray(int tray) {
        return tray < 0 || tray >= TRAYS;
    }

    // ---- music

    public int alone(int p) {
        int code = codeOfOneUp(p);
        if (code != 0) {
            return code;
        }
        music.findAlone(court, state, version, p);
        return music.length;
    }

    public int aloneBy(int p, int i) {
        int code = codeOfOneUp(p);
        if (code != 0) {
            return code;
        }
        if (i < 0) {
            return CANNOT_BE;
        }
        music.findAlone(court, state, version, p);
        return music.tuneAt(i);
    }

    public int ways(int p, int n) {
        int code = codeOfOneUp(p);
        if (code != 0) {
            return code;
        }
        if (n < 0 || n > MOST_MUSIC) {
            return CANNOT_BE;
        }
        return music.waysAlone(court, state, p, n);
    }

    public int sits(int tray) {
        int code = codeOfOrder(tray);
        if (code != 0) {
            return code;
        }
        music.findOrder(court, state, version, trays[tray], tray);
        return music.length;
    }

    public int sitsBy(int tray, int i) {
        int code = codeOfOrder(tray);
        if (code != 0) {
            return code;
        }
        if (i < 0) {
            return CANNOT_BE;
        }
        music.findOrder(court, state, version, trays[tray], tray);
        return music.tuneAt(i);
    }

    private int codeOfOneUp(int p) {
        if (noPerson(p)) {
            return NO_SUCH;
        }
        return state.isUp(p) ? 0 : NOT_NOW;
    }

    private int codeOfOrder(int tray) {
        if (noTray(tray)) {
            return NO_SUCH;
        }
        Tray told = trays[tray];
        if (told.isMissing()) {
            return MISSING;
        }
        if (told.size < 1 || told.size > MOST_PEOPLE) {
            return TOO_MANY;
        }
        int seen = 0;
        for (int i = 0; i < told.size; i++) {
            long v = told.number[i];
            if (v < 0 || v >= court.people || (seen >> (int) v & 1) != 0) {
                return CANNOT_BE;
            }
            seen |= 1 << (int) v;
        }
        return 0;
    }

    // ---- rows, chairs

    public int row(int tray, int p) {
        int code = readNightOfOneUp(tray, p);
        if (code != 0) {
            return code;
        }
        findRow(tray, p);
        return night.longest;
    }

    public int rowSpot(int tray, int p, int k) {
        int code = readNightOfOneUp(tray, p);
        if (code != 0) {
            return code;
        }
        if (noPerson(k)) {
            return NO_NUMBER;
        }
        findRow(tray, p);
        return night.bestRow[k];
    }

    private void findRow(int tray, int p) {
        if (!night.rowMemo.knows(version, tray, p, 0, 0)) {
            night.findRow(court, state, trial, p);
        }
    }

    public int leans(int tray, int p) {
        int code = readNightOfOneUp(tray, p);
        if (code != 0) {
            return code;
        }
        trial.copyFrom(state);
        int usual = night.minutesUp(court, trial, p);
        int found = 0;
        for (int q = 0; q < court.people; q++) {
            if (q != p && state.isUp(q)) {
                trial.copyFrom(state);
                trial.seat(q);
                if (night.minutesUp(court, trial, p) < usual) {
                    found |= 1 << q;
                }
            }
        }
        return found;
    }

    public int chairs(int tray, int p, int what) {
        if (what < 0 || what > 1) {
            return NO_SUCH;
        }
        int code = readNightOfOneUp(tray, p);
        if (code != 0) {
            return code;
        }
        int set = fewestChairs(p);
        if (set == NONE) {
            return NONE;
        }
        return what == 0 ? Integer.bitCount(set) : set;
    }

    private int fewestChairs(int p) {
        int others = state.up & ~(1 << p);
        for (int size = 0; size < MOST_PEOPLE; size++) {
            for (int set = 0; set < 1 << MOST_PEOPLE; set++) {
                if (Integer.bitCount(set) == size && (set & ~others) == 0 && lastBySeating(p, set)) {
                    return set;
                }
            }
        }
        return NONE;
    }

    private boolean lastBySeating(int p, int set) {
        trial.copyFrom(state);
        for (int q = 0; q < court.people; q++) {
            if ((set >> q & 1) != 0) {
                trial.seat(q);
            }
        }
        night.playThrough(court, trial);
        return trial.firstInPlace() == p;
    }

    // ---- strengths

    public int rooms(int tray, int p, int minute) {
        int code = readRooms(tray, p, minute);
        return code != 0 ? code : findRooms(p, minute);
    }

    public int bound(int tray, int p, int minute, int what) {
        if (what < 0 || what > 1) {
            return NO_SUCH;
        }
        int code = readRooms(tray, p, minute);
        if (code != 0) {
            return code;
        }
        findRooms(p, minute);
        for (int k = 0; k <= MOST_STRENGTH; k++) {
            int strength = what == 0 ? k : MOST_STRENGTH - k;
            if (fitting[strength]) {
                return strength;
            }
        }
        return NONE;
    }

    public int next(int tray, int p, int minute) {
        int code = readRooms(tray, p, minute);
        if (code != 0) {
            return code;
        }
        int all = findRooms(p, minute);
        if (all == 0) {
            return NONE;
        }
        int best = NONE;
        int most = -1;
        for (int tune = 0; tune < court.tunes; tune++) {
            int seated = howManySit(p, tune);
            int lesser = Math.min(seated, all - seated);
            if (lesser > most) {
                most = lesser;
                best = tune;
            }
        }
        return best;
    }

    private int readRooms(int tray, int p, int minute) {
        int code = readNight(tray, p);
        if (code != 0) {
            return code;
        }
        if (minute < 0 || minute > night.length) {
            return CANNOT_BE;
        }
        return state.isUp(p) ? 0 : NOT_NOW;
    }

    private int findRooms(int p, int minute) {
        int found = 0;
        for (int strength = 0; strength <= MOST_STRENGTH; strength++) {
            trial.copyFrom(state);
            trial.strength[p] = strength;
            int up = night.minutesUp(court, trial, p);
            int satIn = up == night.length ? 0 : up + 1;
            fitting[strength] = satIn == minute;
            if (satIn == minute) {
                found++;
            }
        }
        return found;
    }

    private int howManySit(int p, int tune) {
        int seated = 0;
        trial.copyFrom(state);
        for (int strength = 0; strength <= MOST_STRENGTH; strength++) {
            trial.strength[p] = strength;
            if (fitting[strength] && strength < court.tiring(trial, p, tune)) {
                seated++;
            }
        }
        return seated;
    }

    // ---- waiting

    public int rests(int p, int q, int tune, int bound) {
        int code = codeOfWaiting(p, q, tune, bound);
        if (code != 0) {
            return code;
        }
        findRests(p, q, tune, bound);
        return waiting.found;
    }

    public int rest(int p, int q, int tune, int bound, int k) {
        int code = codeOfWaiting(p, q, tune, bound);
        if (code != 0) {
            return code;
        }
        if (k < 0) {
            return CANNOT_BE;
        }
        findRests(p, q, tune, bound);
        return k < waiting.found ? waiting.rests[k] : NONE;
    }

    private int codeOfWaiting(int p, int q, int tune, int bound) {
        if (noPerson(p) || noPerson(q) || p == q || noTune(tune)) {
            return NO_SUCH;
        }
        if (bound < 0 || bound > MOST_WAITING) {
            return CANNOT_BE;
        }
        return state.isUp(p) && state.isUp(q) ? 0 : NOT_NOW;
    }

    private void findRests(int p, int q, int tune, int bound) {
        if (!waiting.memo.knows(version, p, q, tune, bound)) {
            waiting.find(court, state, p, q, tune, bound);
        }
    }

    // ---- chances

    public long chance(int p, int n, int what) {
        if (noPerson(p) || what < 0 || what > 1) {
            return NO_SUCH;
        }
        if (n < 0 || n > MOST_CHANCE) {
            return CANNOT_BE;
        }
        findChances(n);
        long above = chances.weight[p];
        long below = chances.whole;
        long common = commonDivisor(above, below);
        if (common < 1) {
            return NONE;
        }
        return what == 0 ? above / common : below / common;
    }

    public int chancellor(int n) {
        if (n < 0 || n > MOST_CHANCE) {
            return CANNOT_BE;
        }
        if (court.people == 0) {
            return NONE;
        }
        findChances(n);
        int best = 0;
        for (int p = 1; p < court.people; p++) {
            if (chances.weight[p] > chances.weight[best]) {
                best = p;
            }
        }
        return best;
    }

    private void findChances(int n) {
        if (!chances.memo.knows(version, n, 0, 0, 0)) {
            chances.find(court, state, n);
        }
    }

    private static long commonDivisor(long a, long b) {
        long greater = a;
        long lesser = b;
        for (int k = 0; k < 200 && lesser != 0; k++) {
            long left = greater % lesser;
            greater = lesser;
            lesser = left;
        }
        return greater;
    }

    // ---- trays, images

    public int numbers(int tray, int sort, int n) {
        if (noTray(tray) || sort < 0 || sort > 3) {
            return NO_SUCH;
        }
        if (n < 0 || n > TRAY_PLACES) {
            return CANNOT_BE;
        }
        trays[tray].begin(sort, n);
        version++;
        return 0;
    }

    public long write(int tray, int i, long v) {
        if (noTray(tray)) {
            return NO_SUCH;
        }
        Tray told = trays[tray];
        if (told.isMissing()) {
            return MISSING;
        }
        if (i < 0 || i >= told.size) {
            return NO_NUMBER;
        }
        told.number[i] = told.cut(v);
        version++;
        return told.number[i];
    }

    public int lists(int tray, int p) {
        if (noTray(tray) || noPerson(p)) {
            return NO_SUCH;
        }
        Tray told = trays[tray];
        if (told.isMissing()) {
            return MISSING;
        }
        if (!state.isUp(p)) {
            return NOT_NOW;
        }
        music.findAlone(court, state, version, p);
        if (music.length == NONE) {
            return NOT_NOW;
        }
        int many = Math.min(music.length, told.size);
        for (int i = 0; i < many; i++) {
            told.number[i] = music.tuneAt(i);
        }
        version++;
        return many;
    }

    public int image(int i) {
        if (i < 0 || i >= IMAGES) {
            return NO_SUCH;
        }
        imagedCourts[i] = court;
        imagedStates[i].copyFrom(state);
        return 0;
    }

    public int restore(int i) {
        if (i < 0 || i >= IMAGES) {
            return NO_SUCH;
        }
        Court imaged = imagedCourts[i];
        if (imaged == null) {
            return NOT_NOW;
        }
        court = imaged;
        state.copyFrom(imagedStates[i]);
        past.forget();
        version++;
        return 0;
    }

    public int count(int what) {
        switch (what) {
            case 0: return court.people;
            case 1: return court.tunes;
            case 2: return court.offices;
            case 3: return state.up;
            case 4: return state.howManyUp();
            case 5: return state.minutes;
            case 6: return state.allStrengths();
            case 7: return court.allOdds();
            case 8: return past.held;
            case 9: return taped;
            case 10: return court.lines;
            default: return NONE;
        }
    }

    // ---- what the calls stand on

    /** A law as a row of steps for a stack of numbers; jumps go forward only. */
    private static final class Law {
        static final int NUMBER = 0;
        static final int FACT = 1;
        static final int PLUS = 2;
        static final int MINUS = 3;
        static final int TIMES = 4;
        static final int SAME = 5;
        static final int LESS = 6;
        static final int MORE = 7;
        static final int AND = 8;
        static final int OR = 9;
        static final int NOT = 10;
        static final int UNLESS = 11;
        static final int LEAP = 12;
        static final int MOST_STACKED = 64;
        private static final int KEPT = 1000000;

        private final int[] code;

        Law(int[] code) {
            this.code = code;
        }

        static int step(int operation, int operand) {
            return operand << 4 | operation;
        }

        int tell(int[] facts, int[] stack) {
            int top = 0;
            int at = 0;
            // No step is taken twice, as jumps go forward.
            for (int k = 0; k < code.length && at < code.length; k++) {
                int operation = code[at] & 15;
                int operand = code[at] >> 4;
                at++;
                if (operation <= FACT) {
                    if (top < stack.length && (operation == NUMBER || operand < facts.length)) {
                        stack[top] = operation == NUMBER ? operand : facts[operand];
                        top++;
                    }
                } else if (operation <= OR) {
                    if (top >= 2) {
                        top--;
                        stack[top - 1] = join(operation, stack[top - 1], stack[top]);
                    }
                } else if (operation == LEAP) {
                    at = operand;
                } else if (top >= 1) {
                    boolean holds = stack[top - 1] != 0;
                    if (operation == NOT) {
                        stack[top - 1] = holds ? 0 : 1;
                    } else {
                        top--;
                        at = holds ? at : operand;
                    }
                }
            }
            return top >= 1 ? stack[top - 1] : 0;
        }

        private static int join(int operation, int a, int b) {
            long told;
            switch (operation) {
                case PLUS: told = (long) a + b; break;
                case MINUS: told = (long) a - b; break;
                case TIMES: told = (long) a * b; break;
                case SAME: return a == b ? 1 : 0;
                case LESS: return a < b ? 1 : 0;
                case MORE: return a > b ? 1 : 0;
                case AND: return a & b;
                default: return a | b;
            }
            if (told > KEPT) {
                return KEPT;
            }
            return told < -KEPT ? -KEPT : (int) told;
        }

        boolean looksAt(int fact) {
            int sought = step(FACT, fact);
            for (int i = 0; i < code.length; i++) {
                if (code[i] == sought) {
                    return true;
                }
            }
            return false;
        }
    }

    /** What a text told; the reader fills it in, and it stays so from then on. */
    private static final class Court {
        static final int WHO = 0;
        static final int MARK = 1;
        static final int STRENGTH = 2;
        static final int TUNE = 3;
        static final int BESIDE = 4;
        static final int UP = 5;
        static final int MINUTE = 6;
        static final int FACTS = 7;
        private static final int MOST_TOLD_MINUTES = 99;
        private static final int MOST_TIRING = 99;
        private static final int MOST_PAIN = 99;

        int people;
        int tunes;
        int offices;
        int lines;
        final int[] strength = new int[MOST_PEOPLE];
        final int[] mark = new int[MOST_PEOPLE];
        final int[] odds = new int[MOST_TUNES];
        final int[] office = new int[MOST_OFFICES];
        // Without a law it is 1.
        Law tiresLaw;
        Law painsLaw;
        private final int[] facts = new int[FACTS];
        private final int[] stack = new int[Law.MOST_STACKED];
        final int[] losses = new int[MOST_PEOPLE];

        int tiring(State s, int p, int tune) {
            lookAtMinute(s, tune);
            lookAtPerson(s, p);
            return lossNow();
        }

        void lookAtMinute(State s, int tune) {
            facts[TUNE] = tune;
            facts[UP] = s.howManyUp();
            facts[MINUTE] = Math.min(s.minutes, MOST_TOLD_MINUTES);
        }

        void lookAtPerson(State s, int p) {
            facts[WHO] = p;
            facts[MARK] = mark[p];
            facts[STRENGTH] = s.strength[p];
            facts[BESIDE] = s.besides(p);
        }

        int lossNow() {
            if (tiresLaw == null) {
                return 1;
            }
            return Math.max(0, Math.min(MOST_TIRING, tiresLaw.tell(facts, stack)));
        }

        int painNow() {
            if (painsLaw == null) {
                return 1;
            }
            return Math.max(-MOST_PAIN, Math.min(MOST_PAIN, painsLaw.tell(facts, stack)));
        }

        boolean heedsNeighbours() {
            return tiresLaw != null && tiresLaw.looksAt(BESIDE);
        }

        int allOdds() {
            int all = 0;
            for (int t = 0; t < tunes; t++) {
                all += odds[t];
            }
            return all;
        }
    }

    /** Reads a text: token by token, each judged before the one behind it is looked at. */
    private static final class Reader {
        private static final int WRONG = -1;
        private static final int END = 0;
        private static final int N = 1;
        private static final int UNKNOWN = 2;
        // A word's kind is this and its number in WORDS; signs are their own kinds, from 40 on.
        private static final int FIRST_WORD = 200;
        // The first seven are the facts, in the order of Court's numbers for them.
        private static final String WORDS =
            "who mark strength tune beside up minute court person odds office tires pains if then else end not and or ";
        private static final int MARK = 201;
        private static final int STRENGTH = 202;
        private static final int TUNE = 203;
        private static final int COURT = 207;
        private static final int PERSON = 208;
        private static final int ODDS = 209;
        private static final int OFFICE = 210;
        private static final int TIRES = 211;
        private static final int PAINS = 212;
        private static final int IF = 213;
        private static final int THEN = 214;
        private static final int ELSE = 215;
        private static final int CLOSE = 216;
        private static final int NOT = 217;
        private static final int AND = 218;
        private static final int OR = 219;
        private static final String SIGNS = ";:+-*()[]=<>";

        private static final int BEGINS_NONE = 1;
        private static final int STANDS_WRONG = 2;
        private static final int OUT_OF_BOUNDS = 3;
        private static final int ONE_TOO_MANY = 4;
        private static final int MOST_WITHIN = 6;
        private static final int MOST_DIGITS = 3;

        int foundFault;
        int foundAt = NONE;
        private byte[] text;
        private int end;
        private int at;
        private int behind;
        private int kind;
        private int value;
        private Court draft;
        private final int[] code = new int[MOST_TEXT];
        private int coded;

        /** The court that a text tells; null: it has a fault. */
        Court readCourt(byte[] bytes, int n) {
            text = bytes;
            end = Math.min(n, bytes.length);
            behind = 0;
            foundFault = 0;
            foundAt = NONE;
            draft = new Court();
            takeToken();
            boolean fine = expect(COURT) && endOfLine();
            for (int k = 0; k < MOST_TEXT && fine && kind != END; k++) {
                fine = readLine() && endOfLine();
            }
            return fine ? draft : null;
        }

        private boolean endOfLine() {
            draft.lines++;
            return expect(';');
        }

        private boolean refuse(int fault) {
            if (foundFault == 0) {
                foundFault = fault;
                foundAt = at;
            }
            return false;
        }

        private boolean expect(int wanted) {
            if (kind != wanted) {
                return refuse(STANDS_WRONG);
            }
            takeToken();
            return true;
        }

        // ---- tokens

        private void takeToken() {
            while (behind < end && (text[behind] == 10 || text[behind] == 32)) {
                behind++;
            }
            at = behind;
            if (at >= end) {
                kind = END;
            } else if (isLetter(text[at])) {
                while (behind < end && isLetter(text[behind])) {
                    behind++;
                }
                kind = kindOfWord(behind - at);
            } else if (isDigit(text[at])) {
                while (behind < end && isDigit(text[behind])) {
                    behind++;
                }
                kind = behind - at > MOST_DIGITS ? WRONG : N;
                value = numberTold();
            } else {
                behind++;
                char sign = (char) (text[at] & 255);
                kind = SIGNS.indexOf(sign) >= 0 ? sign : WRONG;
            }
            if (kind == WRONG) {
                refuse(BEGINS_NONE);
            }
        }

        private int kindOfWord(int length) {
            int word = 0;
            int matched = 0;
            for (int i = 0; i < WORDS.length(); i++) {
                char c = WORDS.charAt(i);
                if (c != ' ') {
                    boolean goesOn = matched >= 0 && matched < length && text[at + matched] == c;
                    matched = goesOn ? matched + 1 : NONE;
                } else if (matched == length) {
                    return FIRST_WORD + word;
                } else {
                    word++;
                    matched = 0;
                }
            }
            return UNKNOWN;
        }

        /** What the digits of the token tell; of too many the first ones, as such a token is refused. */
        private int numberTold() {
            int told = 0;
            for (int i = at; i < behind && i < at + MOST_DIGITS; i++) {
                told = 10 * told + text[i] - '0';
            }
            return told;
        }

        private static boolean isLetter(int b) {
            return b >= 'a' && b <= 'z';
        }

        private static boolean isDigit(int b) {
            return b >= '0' && b <= '9';
        }

        // ---- lines

        private boolean readLine() {
            switch (kind) {
                case PERSON: return readPerson();
                case TUNE: return readTune();
                case OFFICE: return readOffice();
                case TIRES:
                    if (!readLaw()) {
                        return false;
                    }
                    draft.tiresLaw = new Law(Arrays.copyOf(code, coded));
                    return true;
                case PAINS:
                    if (!readLaw()) {
                        return false;
                    }
                    draft.painsLaw = new Law(Arrays.copyOf(code, coded));
                    return true;
                default: return refuse(STANDS_WRONG);
            }
        }

        private boolean readPerson() {
            int p = draft.people;
            if (p >= MOST_PEOPLE) {
                return refuse(ONE_TOO_MANY);
            }
            takeToken();
            if (!expect(STRENGTH) || !isNUpTo(MOST_STRENGTH)) {
                return false;
            }
            draft.strength[p] = value;
            takeToken();
            for (int k = 0; k < MOST_TEXT && kind == MARK; k++) {
                takeToken();
                if (!isNUpTo(9)) {
                    return false;
                }
                draft.mark[p] = value;
                takeToken();
            }
            draft.people++;
            return true;
        }

        private boolean readTune() {
            int t = draft.tunes;
            if (t >= MOST_TUNES) {
                return refuse(ONE_TOO_MANY);
            }
            draft.odds[t] = 1;
            takeToken();
            for (int k = 0; k < MOST_TEXT && kind == ODDS; k++) {
                takeToken();
                if (!isNUpTo(9)) {
                    return false;
                }
                draft.odds[t] = value;
                takeToken();
            }
            draft.tunes++;
            return true;
        }

        private boolean readOffice() {
            if (draft.offices >= MOST_OFFICES) {
                return refuse(ONE_TOO_MANY);
            }
            takeToken();
            if (!isNUpTo(99)) {
                return false;
            }
            draft.office[draft.offices] = value;
            draft.offices++;
            takeToken();
            return true;
        }

        private boolean isNUpTo(int most) {
            if (kind != N) {
                return refuse(STANDS_WRONG);
            }
            return value <= most || refuse(OUT_OF_BOUNDS);
        }

        // ---- laws; "within" is how many of not [ ( if stand open

        private boolean readLaw() {
            coded = 0;
            takeToken();
            return expect(':') && readSum(0);
        }

        private int emit(int operation, int operand) {
            int here = coded;
            if (coded < code.length) {
                code[coded] = Law.step(operation, operand);
                coded++;
            }
            return here;
        }

        private void aimHere(int jump, int operation) {
            if (jump < code.length) {
                code[jump] = Law.step(operation, coded);
            }
        }

        private boolean goWithin(int within) {
            if (within >= MOST_WITHIN) {
                return refuse(ONE_TOO_MANY);
            }
            takeToken();
            return true;
        }

        private boolean readSum(int within) {
            boolean fine = readTerm(within);
            for (int k = 0; k < MOST_TEXT && fine && (kind == '+' || kind == '-'); k++) {
                int operation = kind == '+' ? Law.PLUS : Law.MINUS;
                takeToken();
                fine = readTerm(within);
                emit(operation, 0);
            }
            return fine;
        }

        private boolean readTerm(int within) {
            boolean fine = readAtom(within);
            for (int k = 0; k < MOST_TEXT && fine && kind == '*'; k++) {
                takeToken();
                fine = readAtom(within);
                emit(Law.TIMES, 0);
            }
            return fine;
        }

        private boolean readAtom(int within) {
            if (kind == N) {
                emit(Law.NUMBER, value);
                takeToken();
                return true;
            }
            if (kind >= FIRST_WORD && kind < FIRST_WORD + Court.FACTS) {
                emit(Law.FACT, kind - FIRST_WORD);
                takeToken();
                return true;
            }
            if (kind == '(') {
                return goWithin(within) && readSum(within + 1) && expect(')');
            }
            return kind == IF ? readChoice(within) : refuse(STANDS_WRONG);
        }

        private boolean readChoice(int within) {
            if (!goWithin(within) || !readTruth(within + 1)) {
                return false;
            }
            int unless = emit(Law.UNLESS, 0);
            if (!expect(THEN) || !readSum(within + 1)) {
                return false;
            }
            int leap = emit(Law.LEAP, 0);
            aimHere(unless, Law.UNLESS);
            if (!expect(ELSE) || !readSum(within + 1)) {
                return false;
            }
            aimHere(leap, Law.LEAP);
            return expect(CLOSE);
        }

        private boolean readTruth(int within) {
            boolean fine = readBoth(within);
            for (int k = 0; k < MOST_TEXT && fine && kind == OR; k++) {
                takeToken();
                fine = readBoth(within);
                emit(Law.OR, 0);
            }
            return fine;
        }

        private boolean readBoth(int within) {
            boolean fine = readUnit(within);
            for (int k = 0; k < MOST_TEXT && fine && kind == AND; k++) {
                takeToken();
                fine = readUnit(within);
                emit(Law.AND, 0);
            }
            return fine;
        }

        private boolean readUnit(int within) {
            if (kind == NOT) {
                boolean fine = goWithin(within) && readUnit(within + 1);
                emit(Law.NOT, 0);
                return fine;
            }
            if (kind == '[') {
                return goWithin(within) && readTruth(within + 1) && expect(']');
            }
            return readSum(within) && readComparison(within);
        }

        private boolean readComparison(int within) {
            int operation;
            switch (kind) {
                case '=': operation = Law.SAME; break;
                case '<': operation = Law.LESS; break;
                case '>': operation = Law.MORE; break;
                default: return refuse(STANDS_WRONG);
            }
            takeToken();
            boolean fine = readSum(within);
            emit(operation, 0);
            return fine;
        }
    }

    /** All that deeds change: what a call can bring back by undoing. */
    private static final class State {
        int people;
        int up;
        int minutes;
        // Counts minutes and sittings of one's own, so that each of these is apart from all others.
        private int events;
        final int[] strength = new int[MOST_PEOPLE];
        final int[] pain = new int[MOST_PEOPLE];
        final int[] satIn = new int[MOST_PEOPLE];
        final int[] satAs = new int[MOST_PEOPLE];
        final int[] spotOf = new int[MOST_PEOPLE];
        final int[] personOn = new int[MOST_PEOPLE];

        void copyFrom(State other) {
            people = other.people;
            up = other.up;
            minutes = other.minutes;
            events = other.events;
            System.arraycopy(other.strength, 0, strength, 0, MOST_PEOPLE);
            System.arraycopy(other.pain, 0, pain, 0, MOST_PEOPLE);
            System.arraycopy(other.satIn, 0, satIn, 0, MOST_PEOPLE);
            System.arraycopy(other.satAs, 0, satAs, 0, MOST_PEOPLE);
            System.arraycopy(other.spotOf, 0, spotOf, 0, MOST_PEOPLE);
            System.arraycopy(other.personOn, 0, personOn, 0, MOST_PEOPLE);
        }

        void standInOrder(Court court) {
            people = court.people;
            for (int p = 0; p < MOST_PEOPLE; p++) {
                spotOf[p] = p;
                personOn[p] = p;
            }
            standAgain(court);
        }

        void standAgain(Court court) {
            up = (1 << people) - 1;
            minutes = 0;
            events = 0;
            for (int p = 0; p < people; p++) {
                strength[p] = court.strength[p];
                pain[p] = 0;
                satIn[p] = 0;
                satAs[p] = 0;
            }
        }

        boolean isUp(int p) {
            return (up >> p & 1) != 0;
        }

        int howManyUp() {
            return Integer.bitCount(up);
        }

        int allStrengths() {
            int all = 0;
            for (int p = 0; p < people; p++) {
                all += strength[p];
            }
            return all;
        }

        int besides(int p) {
            int k = spotOf[p];
            int beside = 0;
            if (k > 0 && isUp(personOn[k - 1])) {
                beside++;
            }
            if (k + 1 < people && isUp(personOn[k + 1])) {
                beside++;
            }
            return beside;
        }

        void exchange(int p, int q) {
            int k = spotOf[p];
            spotOf[p] = spotOf[q];
            spotOf[q] = k;
            personOn[spotOf[p]] = p;
            personOn[spotOf[q]] = q;
        }

        void arrange(int[] order) {
            for (int k = 0; k < people; k++) {
                personOn[k] = order[k];
                spotOf[order[k]] = k;
            }
        }

        void seat(int p) {
            events++;
            up &= ~(1 << p);
            satIn[p] = minutes;
            satAs[p] = events;
        }

        /** Searches that ask only who stands pass over the pains, which no law looks at. */
        void playMinute(Court court, int tune, boolean withPains) {
            court.lookAtMinute(this, tune);
            for (int p = 0; p < people; p++) {
                if (isUp(p)) {
                    court.lookAtPerson(this, p);
                    court.losses[p] = court.lossNow();
                    if (withPains) {
                        pain[p] += court.painNow();
                    }
                }
            }
            minutes++;
            events++;
            for (int p = 0; p < people; p++) {
                if (isUp(p)) {
                    strength[p] -= court.losses[p];
                    if (strength[p] < 0) {
                        strength[p] = 0;
                        up &= ~(1 << p);
                        satIn[p] = minutes;
                        satAs[p] = events;
                    }
                }
            }
        }

        private boolean isAhead(int p, int q) {
            boolean firstUp = isUp(p);
            if (firstUp != isUp(q)) {
                return firstUp;
            }
            if (!firstUp && satAs[p] != satAs[q]) {
                return satAs[p] > satAs[q];
            }
            return p < q;
        }

        int placeOf(int p) {
            int ahead = 0;
            for (int q = 0; q < people; q++) {
                if (q != p && isAhead(q, p)) {
                    ahead++;
                }
            }
            return ahead;
        }

        int firstInPlace() {
            int first = people == 0 ? NONE : 0;
            for (int p = 1; p < people; p++) {
                if (isAhead(p, first)) {
                    first = p;
                }
            }
            return first;
        }
    }

    /** The states that calls can bring back, the eldest forgotten when there are too many. */
    private static final class Past {
        private final State[] kept = new State[MOST_UNDONE];
        private int nextAt;
        int held;

        Past() {
            for (int k = 0; k < MOST_UNDONE; k++) {
                kept[k] = new State();
            }
        }

        void keep(State s) {
            kept[nextAt].copyFrom(s);
            nextAt = (nextAt + 1) % MOST_UNDONE;
            held = Math.min(held + 1, MOST_UNDONE);
        }

        /** n is 1 to held. */
        void bringBack(State s, int n) {
            nextAt = Math.floorMod(nextAt - n, MOST_UNDONE);
            held -= n;
            s.copyFrom(kept[nextAt]);
        }

        void forget() {
            held = 0;
        }
    }

    /** Numbers of one sort. */
    private static final class Tray {
        final long[] number = new long[TRAY_PLACES];
        int size;
        private int sort = NONE;

        boolean isMissing() {
            return sort == NONE;
        }

        void begin(int newSort, int n) {
            sort = newSort;
            size = n;
            Arrays.fill(number, 0L);
        }

        long cut(long v) {
            switch (sort) {
                case 0: return (byte) v;
                case 1: return (short) v;
                case 2: return (int) v;
                default: return v;
            }
        }
    }

    /** The tunes of a night, and the row in which one stands longest of it. */
    private static final class Night {
        private static final int ALL_ORDERS = 720;
        final int[] tune = new int[MOST_NIGHT];
        int length;
        final Memo rowMemo = new Memo();
        final int[] bestRow = new int[MOST_PEOPLE];
        int longest;
        private final int[] order = new int[MOST_PEOPLE];

        /** The code that refuses a tray as a night; 0: it is one, and was taken. */
        int take(Tray told, int tunes) {
            if (told.size > MOST_NIGHT) {
                return TOO_MANY;
            }
            for (int i = 0; i < told.size; i++) {
                long v = told.number[i];
                if (v < 0 || v >= tunes) {
                    return CANNOT_BE;
                }
                tune[i] = (int) v;
            }
            length = told.size;
            return 0;
        }

        void playThrough(Court court, State s) {
            for (int k = 0; k < length; k++) {
                s.playMinute(court, tune[k], false);
            }
        }

        /** How many minutes one stands to the end of; it stands now. */
        int minutesUp(Court court, State s, int p) {
            for (int k = 0; k < length; k++) {
                s.playMinute(court, tune[k], false);
                if (!s.isUp(p)) {
                    return k;
                }
            }
            return length;
        }

        void findRow(Court court, State now, State trial, int p) {
            for (int k = 0; k < MOST_PEOPLE; k++) {
                order[k] = k;
            }
            longest = NONE;
            // Orders differ by who stands beside whom alone.
            int tries = court.heedsNeighbours() ? ALL_ORDERS : 1;
            boolean more = true;
            for (int k = 0; k < tries && more && longest < length; k++) {
                trial.copyFrom(now);
                trial.arrange(order);
                int minutes = minutesUp(court, trial, p);
                if (minutes > longest) {
                    longest = minutes;
                    System.arraycopy(order, 0, bestRow, 0, MOST_PEOPLE);
                }
                more = goToNextOrder(court.people);
            }
        }

        /** Goes on to the next order of the first n, counted as words in a dictionary are. */
        private boolean goToNextOrder(int n) {
            int i = n - 2;
            while (i >= 0 && order[i] > order[i + 1]) {
                i--;
            }
            if (i < 0) {
                return false;
            }
            int j = n - 1;
            while (j > i && order[j] < order[i]) {
                j--;
            }
            swapInOrder(i, j);
            for (int a = i + 1, b = n - 1; a < b; a++, b--) {
                swapInOrder(a, b);
            }
            return true;
        }

        private void swapInOrder(int i, int j) {
            int person = order[i];
            order[i] = order[j];
            order[j] = person;
        }
    }

    /** What was asked last, so that the same question need not be worked out again. */
    private static final class Memo {
        private final int[] asked = new int[5];

        boolean knows(int version, int a, int b, int c, int d) {
            boolean same = asked[0] == version && asked[1] == a && asked[2] == b
                && asked[3] == c && asked[4] == d;
            asked[0] = version;
            asked[1] = a;
            asked[2] = b;
            asked[3] = c;
            asked[4] = d;
            return same;
        }
    }

    /** The shortest music by which one stands alone, or by which some sit in order. */
    private static final class Music {
        private static final int FOR_ONE = 0;
        private static final int FOR_ORDER = 1;
        private final Memo memo = new Memo();
        private final State[] levels;
        private final int[] tune = new int[MOST_MUSIC];
        int length;
        private Court court;
        private boolean forOne;
        private int person;
        private final int[] order = new int[MOST_PEOPLE];
        private int ordered;

        Music(State[] levels) {
            this.levels = levels;
        }

        int tuneAt(int i) {
            return i >= 0 && i < length && i < tune.length ? tune[i] : NONE;
        }

        void findAlone(Court told, State now, int version, int p) {
            if (memo.knows(version, FOR_ONE, p, 0, 0)) {
                return;
            }
            forOne = true;
            person = p;
            findShortest(told, now);
        }

        void findOrder(Court told, State now, int version, Tray people, int tray) {
            if (memo.knows(version, FOR_ORDER, tray, 0, 0)) {
                return;
            }
            forOne = false;
            ordered = Math.min(people.size, MOST_PEOPLE);
            for (int i = 0; i < ordered; i++) {
                order[i] = (int) people.number[i];
            }
            findShortest(told, now);
        }

        private void findShortest(Court told, State now) {
            court = told;
            levels[0].copyFrom(now);
            length = NONE;
            for (int limit = 0; limit <= MOST_MUSIC && length == NONE; limit++) {
                if (reaches(0, limit)) {
                    length = limit;
                }
            }
        }

        /** Tunes are tried from the first on, so that of like ones the first is found. */
        private boolean reaches(int depth, int limit) {
            State here = levels[depth];
            if (forOne ? !here.isUp(person) : isOutOfOrder(here)) {
                return false;
            }
            if (depth >= limit || depth >= MOST_MUSIC) {
                return forOne ? here.up == 1 << person : allSit(here);
            }
            for (int t = 0; t < court.tunes; t++) {
                tune[depth] = t;
                levels[depth + 1].copyFrom(here);
                levels[depth + 1].playMinute(court, t, false);
                if (reaches(depth + 1, limit)) {
                    return true;
                }
            }
            return false;
        }

        /** Whether one sits, and no later music could seat the one told ahead of it in time. */
        private boolean isOutOfOrder(State s) {
            for (int i = 1; i < ordered; i++) {
                int former = order[i - 1];
                int latter = order[i];
                if (!s.isUp(latter) && (s.isUp(former) || s.satAs[former] >= s.satAs[latter])) {
                    return true;
                }
            }
            return false;
        }

        private boolean allSit(State s) {
            for (int i = 0; i < ordered; i++) {
                if (s.isUp(order[i])) {
                    return false;
                }
            }
            return true;
        }

        int waysAlone(Court told, State now, int p, int n) {
            court = told;
            levels[0].copyFrom(now);
            return waysFrom(0, p, n);
        }

        private int waysFrom(int depth, int p, int n) {
            State here = levels[depth];
            if (!here.isUp(p)) {
                return 0;
            }
            if (depth >= n || depth >= MOST_MUSIC) {
                return here.up == 1 << p ? 1 : 0;
            }
            int found = 0;
            for (int t = 0; t < court.tunes; t++) {
                levels[depth + 1].copyFrom(here);
                levels[depth + 1].playMinute(court, t, false);
                found += waysFrom(depth + 1, p, n);
            }
            return found;
        }
    }

    /** How likely each is the last, by music at random. */
    private static final class Chance {
        final Memo memo = new Memo();
        final long[] weight = new long[MOST_PEOPLE];
        long whole;
        private final State[] levels;
        private final long[] power = new long[MOST_CHANCE + 1];
        private Court court;
        private int minutes;

        Chance(State[] levels) {
            this.levels = levels;
        }

        void find(Court told, State now, int n) {
            court = told;
            int all = court.allOdds();
            minutes = all == 0 ? 0 : Math.min(n, MOST_CHANCE);
            power[0] = 1;
            for (int k = 1; k <= MOST_CHANCE; k++) {
                power[k] = power[k - 1] * all;
            }
            whole = power[minutes];
            Arrays.fill(weight, 0L);
            levels[0].copyFrom(now);
            weigh(0, 1L);
        }

        private void weigh(int depth, long odds) {
            State here = levels[depth];
            // One that stands alone is ahead of all others, whenever it sits down.
            if (depth >= minutes || depth >= MOST_CHANCE || here.howManyUp() < 2) {
                int first = here.firstInPlace();
                if (first >= 0) {
                    weight[first] += odds * power[minutes - depth];
                }
                return;
            }
            for (int t = 0; t < court.tunes; t++) {
                if (court.odds[t] > 0) {
                    levels[depth + 1].copyFrom(here);
                    levels[depth + 1].playMinute(court, t, false);
                    weigh(depth + 1, odds * court.odds[t]);
                }
            }
        }
    }

    /** How long two should stand against each other. */
    private static final class Waiting {
        private static final int SIDE = MOST_WAITING + 1;
        final Memo memo = new Memo();
        final int[] rests = new int[SIDE * SIDE];
        int found;
        // What the first and the second win, by SIDE times what the first tells, and what the second.
        private final int[] firstWins = new int[SIDE * SIDE];
        private final int[] secondWins = new int[SIDE * SIDE];
        private final State pair = new State();
        private final State trial = new State();

        void find(Court court, State now, int p, int q, int tune, int bound) {
            pair.copyFrom(now);
            pair.up = 1 << p | 1 << q;
            pair.pain[p] = 0;
            pair.pain[q] = 0;
            for (int a = 0; a <= bound && a < SIDE; a++) {
                for (int b = 0; b <= bound && b < SIDE; b++) {
                    standAgainst(court, tune, p, q, a, b);
                }
            }
            found = 0;
            for (int a = 0; a <= bound && a < SIDE; a++) {
                for (int b = 0; b <= bound && b < SIDE; b++) {
                    if (neitherGains(a, b, bound)) {
                        rests[found] = 100 * a + b;
                        found++;
                    }
                }
            }
        }

        private void standAgainst(Court court, int tune, int p, int q, int a, int b) {
            trial.copyFrom(pair);
            int firstStood = 0;
            int secondStood = 0;
            for (int minute = 0; minute <= MOST_WAITING; minute++) {
                if (trial.isUp(p)) {
                    firstStood = minute;
                    if (minute == a) {
                        trial.seat(p);
                    }
                }
                if (trial.isUp(q)) {
                    secondStood = minute;
                    if (minute == b) {
                        trial.seat(q);
                    }
                }
                if (trial.up == 0) {
                    break;
                }
                trial.playMinute(court, tune, true);
            }
            firstWins[a * SIDE + b] = court.office[firstStood > secondStood ? 0 : 1] - trial.pain[p];
            secondWins[a * SIDE + b] = court.office[secondStood > firstStood ? 0 : 1] - trial.pain[q];
        }

        private boolean neitherGains(int a, int b, int bound) {
            int here = a * SIDE + b;
            for (int other = 0; other <= bound && other < SIDE; other++) {
                if (firstWins[other * SIDE + b] > firstWins[here]
                    || secondWins[a * SIDE + other] > secondWins[here]) {
                    return false;
                }
            }
            return true;
        }
    }
}
