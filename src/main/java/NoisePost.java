/**
 * A noise post: it is told levels and wind minute by minute, and tells what follows from them
 * by the settings as they are now.
 */
public final class NoisePost {
    public static final int NONE = -1;

    private static final int MOST_MINUTES = 200;
    private static final int MOST_LEVEL = 140;
    private static final int MOST_WIND = 40;
    private static final int MOST_ALIKE = 60;
    // Between two exceedances at least one minute is not above.
    private static final int MOST_EXCEEDANCES = 100;
    private static final int MOST_COMPLAINTS = 20;
    private static final int LAST_COMPLAINT_MINUTE = 300;
    private static final int MOST_CHARACTERS = 60;
    // A part takes at least a digit and, but for the last one, a semicolon.
    private static final int MOST_PARTS = 30;
    private static final int MOST_SAVED = 8;
    private static final int MOST_AHEAD = 100;
    private static final int HOUR = 60;
    private static final int TENTHS = 10;

    private static final int SETTINGS = 10;
    private static final int LIMIT = 0;
    private static final int REST_LIMIT = 1;
    private static final int REST_BEGIN = 2;
    private static final int REST_LENGTH = 3;
    private static final int WIND_LIMIT = 4;
    private static final int CALM = 5;
    private static final int GAP = 6;
    private static final int PATIENCE = 7;
    private static final int FAST_TIME = 8;
    private static final int SLOW_TIME = 9;
    private static final int[] SETTING_LEAST = {0, 0, 0, 0, 1, 0, 1, 0, 1, 1};
    private static final int[] SETTING_MOST = {140, 140, 59, 60, 41, 20, 20, 60, 20, 50};
    private static final int[] SETTING_AT_FIRST = {70, 60, 40, 20, 15, 2, 3, 10, 2, 8};

    private static final int ABOVE = 0;
    private static final int OWN_WIND = 1;
    private static final int WIND_BEFORE = 2;
    private static final int NOT_HIGHER = 3;

    private static final int LEVEL_FIELD = 0;
    private static final int WIND_FIELD = 1;
    private static final int TIMES_FIELD = 2;
    private static final int FIELDS = 3;
    private static final int[] FIELD_LEAST = {0, 0, 2};
    private static final int[] FIELD_MOST = {140, 40, 60};

    private final State state = new State();
    private final History history = new History();
    private final Text text = new Text();
    private final View now = new View();
    private final View tried = new View();
    private final LevelCounts levelCounts = new LevelCounts();

    public NoisePost() {
        // The parts begin as what a post without minutes and complaints tells.
    }

    // ---- changes

    public int set(int setting, int value) throws IndexOutOfBoundsException, IllegalArgumentException {
        if (!isSetting(setting)) {
            throw new IndexOutOfBoundsException("no such setting");
        }
        if (!fitsSetting(setting, value)) {
            throw new IllegalArgumentException("value out of range");
        }
        history.keep(state);
        int previous = state.settings[setting];
        state.settings[setting] = value;
        readAgain();
        return previous;
    }

    public int tell(int level, int wind, int minutes) throws IllegalArgumentException, IllegalStateException {
        if (!isLevel(level) || !isWind(wind) || minutes < 1 || minutes > MOST_ALIKE) {
            throw new IllegalArgumentException("level, wind or minutes out of range");
        }
        if (state.minutes + minutes > MOST_MINUTES) {
            throw new IllegalStateException("too many minutes");
        }
        history.keep(state);
        state.addMinutes(level, wind, minutes);
        readAgain();
        return state.minutes;
    }

    public int correct(int minute, int level, int wind) throws IndexOutOfBoundsException, IllegalArgumentException {
        if (!state.hasMinute(minute)) {
            throw new IndexOutOfBoundsException("no such minute");
        }
        if (!isLevel(level) || !isWind(wind)) {
            throw new IllegalArgumentException("level or wind out of range");
        }
        history.keep(state);
        state.levels[minute] = level;
        state.winds[minute] = wind;
        readAgain();
        return now.exceedances.found;
    }

    public int forget(int minutes) throws IllegalArgumentException {
        if (minutes < 1 || minutes > state.minutes) {
            throw new IllegalArgumentException("minutes out of range");
        }
        history.keep(state);
        state.dropMinutes(minutes);
        readAgain();
        return state.minutes;
    }

    public int complain(int minute) throws IllegalArgumentException, IllegalStateException {
        if (minute < 0 || minute > LAST_COMPLAINT_MINUTE) {
            throw new IllegalArgumentException("minute out of range");
        }
        if (state.complaints >= MOST_COMPLAINTS) {
            throw new IllegalStateException("too many complaints");
        }
        history.keep(state);
        int number = state.complaints;
        state.addComplaint(minute);
        readAgain();
        return number;
    }

    public int withdraw(int complaint) throws IndexOutOfBoundsException {
        if (!state.hasComplaint(complaint)) {
            throw new IndexOutOfBoundsException("no such complaint");
        }
        history.keep(state);
        int exceedance = now.matches.exceedanceOf[complaint];
        state.dropComplaint(complaint);
        readAgain();
        return exceedance;
    }

    // ---- texts

    public int append(int code) throws IllegalArgumentException, IllegalStateException {
        if (code < 33 || code > 126) {
            throw new IllegalArgumentException("code out of range");
        }
        if (text.length >= MOST_CHARACTERS) {
            throw new IllegalStateException("the buffer is full");
        }
        text.addCode(code);
        return text.length;
    }

    public int clearBuffer() {
        int before = text.length;
        text.length = 0;
        return before;
    }

    public int firstError() {
        return text.read();
    }

    public int load() throws IllegalArgumentException, IllegalStateException {
        if (!text.isWhole()) {
            throw new IllegalArgumentException("not a complete text");
        }
        if (state.minutes + text.minutesInParts() > MOST_MINUTES) {
            throw new IllegalStateException("too many minutes");
        }
        history.keep(state);
        for (int part = 0; part < text.parts; part++) {
            state.addMinutes(text.levels[part], text.winds[part], text.times[part]);
        }
        text.length = 0;
        readAgain();
        return state.minutes;
    }

    public int undo() throws IllegalStateException {
        if (history.kept < 1) {
            throw new IllegalStateException("no saved state");
        }
        history.giveBack(state);
        readAgain();
        return history.kept;
    }

    // ---- what there is

    public int minute(int minute, int what) throws IndexOutOfBoundsException, IllegalArgumentException {
        if (!state.hasMinute(minute)) {
            throw new IndexOutOfBoundsException("no such minute");
        }
        if (what < 0 || what > 7) {
            throw new IllegalArgumentException("what out of range");
        }
        return minuteProperty(minute, what);
    }

    public int exceedance(int exceedance, int what) throws IndexOutOfBoundsException, IllegalArgumentException {
        if (exceedance < 0 || exceedance >= now.exceedances.found) {
            throw new IndexOutOfBoundsException("no such exceedance");
        }
        if (what < 0 || what > 5) {
            throw new IllegalArgumentException("what out of range");
        }
        return exceedanceProperty(exceedance, what);
    }

    public int complaint(int complaint, int what) throws IndexOutOfBoundsException, IllegalArgumentException {
        if (!state.hasComplaint(complaint)) {
            throw new IndexOutOfBoundsException("no such complaint");
        }
        if (what < 0 || what > 1) {
            throw new IllegalArgumentException("what out of range");
        }
        return complaintProperty(complaint, what);
    }

    public int levelCount(int level) throws IllegalArgumentException {
        if (!isLevel(level)) {
            throw new IllegalArgumentException("level out of range");
        }
        return levelCounts.reached[level];
    }

    public int percentLevel(int percent) throws IllegalArgumentException {
        if (percent < 1 || percent > 100) {
            throw new IllegalArgumentException("percent out of range");
        }
        return levelCounts.levelOfPercent(percent, now.minutes.counted);
    }

    public int count(int what) throws IllegalArgumentException {
        if (what < 0 || what > 11) {
            throw new IllegalArgumentException("what out of range");
        }
        return numberOf(what);
    }

    public int setting(int setting) throws IndexOutOfBoundsException {
        if (!isSetting(setting)) {
            throw new IndexOutOfBoundsException("no such setting");
        }
        return state.settings[setting];
    }

    // ---- what would be; nothing is changed

    public int ifSet(int setting, int value, int what) throws IndexOutOfBoundsException, IllegalArgumentException {
        if (!isSetting(setting)) {
            throw new IndexOutOfBoundsException("no such setting");
        }
        if (!fitsSetting(setting, value) || what < 0 || what > 9) {
            throw new IllegalArgumentException("value or what out of range");
        }
        tried.takeSettings(state.settings);
        tried.settings[setting] = value;
        tried.look(state);
        return tried.numberOf(what);
    }

    public int leastLimit(int exceedances) throws IllegalArgumentException {
        if (exceedances < 0 || exceedances > MOST_MINUTES) {
            throw new IllegalArgumentException("exceedances out of range");
        }
        return now.leastLimitFor(exceedances);
    }

    public int aboveIn(int level) throws IllegalArgumentException {
        if (!isLevel(level)) {
            throw new IllegalArgumentException("level out of range");
        }
        return now.minutesUntilAbove(level);
    }

    public double share() {
        return now.minutes.shareAbove();
    }

    public long digest() {
        long hash = 2161L;
        for (int what = 0; what <= 11; what++) {
            hash = mixed(hash, numberOf(what));
        }
        for (int setting = 0; setting < SETTINGS; setting++) {
            hash = mixed(hash, state.settings[setting]);
        }
        hash = withMinutes(hash);
        hash = withExceedances(hash);
        hash = withComplaints(hash);
        hash = withLevels(hash);
        hash = mixed(hash, now.leastLimitFor(1));
        hash = mixed(hash, now.minutesUntilAbove(80));
        hash = mixed(hash, bitsOf(now.minutes.shareAbove()));
        return withBuffer(hash);
    }

    // ---- helpers

    private void readAgain() {
        now.takeSettings(state.settings);
        now.look(state);
        levelCounts.tally(now.minutes);
    }

    private static boolean isSetting(int setting) {
        return setting >= 0 && setting < SETTINGS;
    }

    private static boolean fitsSetting(int setting, int value) {
        return isSetting(setting) && value >= SETTING_LEAST[setting] && value <= SETTING_MOST[setting];
    }

    private static boolean isLevel(int level) {
        return level >= 0 && level <= MOST_LEVEL;
    }

    private static boolean isWind(int wind) {
        return wind >= 0 && wind <= MOST_WIND;
    }

    private int numberOf(int what) {
        if (what == 10) {
            return history.kept;
        }
        return now.numberOf(what);
    }

    private int minuteProperty(int minute, int what) {
        switch (what) {
            case 0:
                return state.levels[minute];
            case 1:
                return state.winds[minute];
            case 2:
                return now.minutes.fast[minute];
            case 3:
                return now.minutes.slow[minute];
            case 4:
                return limitAt(minute, state.settings);
            case 5:
                return isRest(minute, state.settings) ? 1 : 0;
            case 6:
                return now.minutes.why[minute];
            default:
                return now.exceedances.ownerOf[minute];
        }
    }

    private int exceedanceProperty(int exceedance, int what) {
        switch (what) {
            case 0:
                return now.exceedances.begins[exceedance];
            case 1:
                return now.exceedances.ends[exceedance];
            case 2:
                return now.exceedances.aboves[exceedance];
            case 3:
                return now.exceedances.peaks[exceedance];
            case 4:
                return now.exceedances.weights[exceedance];
            default:
                return now.matches.complaintOf[exceedance];
        }
    }

    private int complaintProperty(int complaint, int what) {
        return what == 0 ? state.complaintMinutes[complaint] : now.matches.exceedanceOf[complaint];
    }

    private static boolean isRest(int minute, int[] settings) {
        return Math.floorMod(minute - settings[REST_BEGIN], HOUR) < settings[REST_LENGTH];
    }

    private static int limitAt(int minute, int[] settings) {
        return isRest(minute, settings) ? settings[REST_LIMIT] : settings[LIMIT];
    }

    /** Where an arm stands behind a minute with this level. */
    private static int moved(int place, int level, int time) {
        return time < 1 ? place : place + (TENTHS * level - place) / time;
    }

    // ---- the parts of the digest

    private static long mixed(long hash, long value) {
        return 31L * hash + value;
    }

    private long withMinutes(long hash) {
        for (int minute = 0; minute < state.minutes; minute++) {
            for (int what = 0; what <= 7; what++) {
                hash = mixed(hash, minuteProperty(minute, what));
            }
        }
        return hash;
    }

    private long withExceedances(long hash) {
        for (int exceedance = 0; exceedance < now.exceedances.found; exceedance++) {
            for (int what = 0; what <= 5; what++) {
                hash = mixed(hash, exceedanceProperty(exceedance, what));
            }
        }
        return hash;
    }

    private long withComplaints(long hash) {
        for (int complaint = 0; complaint < state.complaints; complaint++) {
            hash = mixed(hash, complaintProperty(complaint, 0));
            hash = mixed(hash, complaintProperty(complaint, 1));
        }
        return hash;
    }

    private long withLevels(long hash) {
        for (int level = 0; level <= MOST_LEVEL; level += 10) {
            hash = mixed(hash, levelCounts.reached[level]);
        }
        int counted = now.minutes.counted;
        hash = mixed(hash, levelCounts.levelOfPercent(1, counted));
        hash = mixed(hash, levelCounts.levelOfPercent(10, counted));
        hash = mixed(hash, levelCounts.levelOfPercent(50, counted));
        hash = mixed(hash, levelCounts.levelOfPercent(90, counted));
        return mixed(hash, levelCounts.levelOfPercent(100, counted));
    }

    private long withBuffer(long hash) {
        hash = mixed(hash, text.length);
        for (int i = 0; i < text.length; i++) {
            hash = mixed(hash, text.codes[i]);
        }
        return hash;
    }

    /**
     * What Double.doubleToLongBits answers for a share, 0.0 to 1.0, found by arithmetic, since
     * that method is not in the library that the program keeps to.
     */
    private static long bitsOf(double share) {
        if (share <= 0.0) {
            return 0L;
        }
        double fraction = share;
        long exponent = 1023L;
        // The least share above 0 is 1 of 200: it takes 8 doublings.
        for (int doublings = 0; doublings < 60 && fraction < 1.0; doublings++) {
            fraction = fraction * 2.0;
            exponent--;
        }
        long mantissa = (long) ((fraction - 1.0) * (double) (1L << 52));
        return (exponent << 52) + mantissa;
    }

    /** What was told and not forgotten: all that undo restores. */
    private static final class State {
        final int[] levels = new int[MOST_MINUTES];
        final int[] winds = new int[MOST_MINUTES];
        final int[] settings = SETTING_AT_FIRST.clone();
        final int[] complaintMinutes = new int[MOST_COMPLAINTS];
        int minutes;
        int complaints;

        boolean hasMinute(int minute) {
            return minute >= 0 && minute < minutes;
        }

        boolean hasComplaint(int number) {
            return number >= 0 && number < complaints;
        }

        void addMinutes(int level, int wind, int howMany) {
            for (int i = 0; i < howMany && minutes < MOST_MINUTES; i++) {
                levels[minutes] = level;
                winds[minutes] = wind;
                minutes++;
            }
        }

        void dropMinutes(int howMany) {
            int left = minutes - howMany;
            for (int minute = 0; minute < left; minute++) {
                levels[minute] = levels[minute + howMany];
                winds[minute] = winds[minute + howMany];
            }
            minutes = left;
            for (int i = 0; i < complaints; i++) {
                complaintMinutes[i] = Math.max(0, complaintMinutes[i] - howMany);
            }
        }

        void addComplaint(int minute) {
            if (complaints < MOST_COMPLAINTS) {
                complaintMinutes[complaints] = minute;
                complaints++;
            }
        }

        void dropComplaint(int number) {
            for (int i = number; i + 1 < complaints; i++) {
                complaintMinutes[i] = complaintMinutes[i + 1];
            }
            complaints--;
        }

        void takeOver(State other) {
            System.arraycopy(other.levels, 0, levels, 0, MOST_MINUTES);
            System.arraycopy(other.winds, 0, winds, 0, MOST_MINUTES);
            System.arraycopy(other.settings, 0, settings, 0, SETTINGS);
            System.arraycopy(other.complaintMinutes, 0, complaintMinutes, 0, MOST_COMPLAINTS);
            minutes = other.minutes;
            complaints = other.complaints;
        }
    }

    /** The saved states, in a ring, so that the oldest one is written over when it is full. */
    private static final class History {
        final State[] ring = new State[MOST_SAVED];
        int next;
        int kept;

        History() {
            for (int i = 0; i < MOST_SAVED; i++) {
                ring[i] = new State();
            }
        }

        void keep(State state) {
            ring[next].takeOver(state);
            next = (next + 1) % MOST_SAVED;
            kept = Math.min(kept + 1, MOST_SAVED);
        }

        void giveBack(State state) {
            next = (next + MOST_SAVED - 1) % MOST_SAVED;
            kept--;
            state.takeOver(ring[next]);
        }
    }

    /** The buffer, and the parts that were read from it. */
    private static final class Text {
        final int[] codes = new int[MOST_CHARACTERS];
        int length;
        final int[] levels = new int[MOST_PARTS];
        final int[] winds = new int[MOST_PARTS];
        final int[] times = new int[MOST_PARTS];
        int parts;
        // The numbers of the part that is being read, by fields, and the field that is being read.
        final int[] numbers = new int[FIELDS];
        int field;

        void addCode(int code) {
            if (length < MOST_CHARACTERS) {
                codes[length] = code;
                length++;
            }
        }

        /** Reads the parts that a semicolon ends, and returns the index of the first syntax error. */
        int read() {
            parts = 0;
            beginPart();
            int at = 0;
            while (at < length && takes(codes[at])) {
                at++;
            }
            return at;
        }

        /** Reads all parts. */
        boolean isWhole() {
            if (read() < length || !numberIsWhole()) {
                return false;
            }
            endPart();
            return true;
        }

        int minutesInParts() {
            int sum = 0;
            for (int part = 0; part < parts; part++) {
                sum += times[part];
            }
            return sum;
        }

        private boolean takes(int code) {
            if (code >= '0' && code <= '9') {
                return takesDigit(code - '0');
            }
            if (!numberIsWhole()) {
                return false;
            }
            if (code == '@' && field == LEVEL_FIELD) {
                beginNumber(WIND_FIELD);
                return true;
            }
            if (code == '*' && field != TIMES_FIELD) {
                beginNumber(TIMES_FIELD);
                return true;
            }
            if (code == ';') {
                endPart();
                beginPart();
                return true;
            }
            return false;
        }

        private boolean takesDigit(int digit) {
            int number = numbers[field];
            boolean fits;
            if (number == NONE) {
                // Each digit but 0 begins a number of each field: a 1 that is too small begins a 10.
                fits = digit > 0 || FIELD_LEAST[field] == 0;
                number = 0;
            } else {
                fits = number > 0 && 10 * number + digit <= FIELD_MOST[field];
            }
            if (fits) {
                numbers[field] = 10 * number + digit;
            }
            return fits;
        }

        private boolean numberIsWhole() {
            return numbers[field] != NONE && numbers[field] >= FIELD_LEAST[field];
        }

        private void beginNumber(int newField) {
            field = newField;
            numbers[newField] = NONE;
        }

        private void beginPart() {
            numbers[WIND_FIELD] = 0;
            numbers[TIMES_FIELD] = 1;
            beginNumber(LEVEL_FIELD);
        }

        private void endPart() {
            if (parts < MOST_PARTS) {
                levels[parts] = numbers[LEVEL_FIELD];
                winds[parts] = numbers[WIND_FIELD];
                times[parts] = numbers[TIMES_FIELD];
                parts++;
            }
        }
    }

    /** All that follows from a state by settings of its own: those of the state, or others that are tried. */
    private static final class View {
        final int[] settings = SETTING_AT_FIRST.clone();
        final Minutes minutes = new Minutes();
        final Exceedances exceedances = new Exceedances();
        final Matches matches = new Matches();

        void takeSettings(int[] values) {
            System.arraycopy(values, 0, settings, 0, SETTINGS);
        }

        void look(State state) {
            minutes.moveArms(state, settings);
            minutes.judge(state, settings);
            minutes.tally(settings);
            exceedances.find(minutes, settings);
            matches.match(state, exceedances, settings[PATIENCE]);
        }

        /** As the method count tells it, but for the saved states. */
        int numberOf(int what) {
            switch (what) {
                case 0:
                    return minutes.told;
                case 1:
                    return minutes.counted;
                case 2:
                    return minutes.told - minutes.counted;
                case 3:
                    return minutes.resting;
                case 4:
                    return minutes.above;
                case 5:
                    return exceedances.found;
                case 6:
                    return matches.complaints;
                case 7:
                    return matches.matched;
                case 8:
                    return exceedances.weightOfAll();
                case 9:
                    return exceedances.heaviest();
                default:
                    return exceedances.goesOn ? 1 : 0;
            }
        }

        /** A higher limit can split one exceedance in two, so each limit is tried in turn. */
        int leastLimitFor(int most) {
            for (int limit = 0; limit <= MOST_LEVEL; limit++) {
                if (exceedancesWithLimit(limit) <= most) {
                    return limit;
                }
            }
            return NONE;
        }

        private int exceedancesWithLimit(int limit) {
            int gap = settings[GAP];
            int notAbove = gap;
            int found = 0;
            for (int minute = 0; minute < minutes.told; minute++) {
                if (isAboveWithLimit(minute, limit)) {
                    if (notAbove >= gap) {
                        found++;
                    }
                    notAbove = 0;
                } else {
                    notAbove++;
                }
            }
            return found;
        }

        private boolean isAboveWithLimit(int minute, int limit) {
            if (!minutes.isCounted(minute)) {
                return false;
            }
            int ownLimit = isRest(minute, settings) ? settings[REST_LIMIT] : limit;
            return minutes.slow[minute] > TENTHS * ownLimit;
        }

        int minutesUntilAbove(int level) {
            int place = minutes.lastSlowPlace();
            for (int further = 1; further <= MOST_AHEAD; further++) {
                int minute = minutes.told + further - 1;
                place = moved(place, level, settings[SLOW_TIME]);
                boolean vetoed = minutes.isSoonAfterWind(minute, settings[CALM]);
                if (!vetoed && place > TENTHS * limitAt(minute, settings)) {
                    return further;
                }
            }
            return NONE;
        }
    }

    /** What follows for each minute: the places of the arms, and why it is not above. */
    private static final class Minutes {
        final int[] fast = new int[MOST_MINUTES];
        final int[] slow = new int[MOST_MINUTES];
        final int[] why = new int[MOST_MINUTES];
        int told;
        int counted;
        int resting;
        int above;
        int lastWindy = NONE;

        void moveArms(State state, int[] settings) {
            told = state.minutes;
            int fastPlace = 0;
            int slowPlace = 0;
            for (int minute = 0; minute < told; minute++) {
                fastPlace = moved(fastPlace, state.levels[minute], settings[FAST_TIME]);
                slowPlace = moved(slowPlace, state.levels[minute], settings[SLOW_TIME]);
                fast[minute] = fastPlace;
                slow[minute] = slowPlace;
            }
        }

        void judge(State state, int[] settings) {
            lastWindy = NONE;
            for (int minute = 0; minute < told; minute++) {
                if (state.winds[minute] >= settings[WIND_LIMIT]) {
                    why[minute] = OWN_WIND;
                    lastWindy = minute;
                } else if (isSoonAfterWind(minute, settings[CALM])) {
                    why[minute] = WIND_BEFORE;
                } else {
                    boolean higher = slow[minute] > TENTHS * limitAt(minute, settings);
                    why[minute] = higher ? ABOVE : NOT_HIGHER;
                }
            }
        }

        void tally(int[] settings) {
            counted = 0;
            resting = 0;
            above = 0;
            for (int minute = 0; minute < told; minute++) {
                counted += isCounted(minute) ? 1 : 0;
                resting += isRest(minute, settings) ? 1 : 0;
                above += why[minute] == ABOVE ? 1 : 0;
            }
        }

        /** Of a minute behind all that were judged so far. */
        boolean isSoonAfterWind(int minute, int calm) {
            return lastWindy != NONE && minute - lastWindy <= calm;
        }

        boolean isCounted(int minute) {
            return why[minute] == ABOVE || why[minute] == NOT_HIGHER;
        }

        int lastSlowPlace() {
            return told < 1 ? 0 : slow[told - 1];
        }

        double shareAbove() {
            return counted < 1 ? 0.0 : (double) above / (double) counted;
        }
    }

    /** The exceedances, by their numbers. */
    private static final class Exceedances {
        final int[] begins = new int[MOST_EXCEEDANCES];
        final int[] ends = new int[MOST_EXCEEDANCES];
        final int[] aboves = new int[MOST_EXCEEDANCES];
        final int[] peaks = new int[MOST_EXCEEDANCES];
        final int[] weights = new int[MOST_EXCEEDANCES];
        final int[] ownerOf = new int[MOST_MINUTES];
        int found;
        boolean goesOn;

        void find(Minutes minutes, int[] settings) {
            int gap = settings[GAP];
            int notAbove = gap;
            found = 0;
            for (int minute = 0; minute < minutes.told; minute++) {
                ownerOf[minute] = NONE;
                if (minutes.why[minute] == ABOVE) {
                    if (notAbove >= gap) {
                        begin(minute);
                    }
                    notAbove = 0;
                    int weight = minutes.slow[minute] - TENTHS * limitAt(minute, settings);
                    extend(minute, minutes.fast[minute], weight);
                } else {
                    notAbove++;
                }
            }
            goesOn = notAbove < gap;
            markOwners();
        }

        private void begin(int minute) {
            if (found < MOST_EXCEEDANCES) {
                begins[found] = minute;
                aboves[found] = 0;
                peaks[found] = 0;
                weights[found] = 0;
                found++;
            }
        }

        private void extend(int minute, int fastPlace, int weight) {
            int latest = found - 1;
            if (latest >= 0) {
                ends[latest] = minute;
                aboves[latest]++;
                peaks[latest] = Math.max(peaks[latest], fastPlace);
                weights[latest] += weight;
            }
        }

        private void markOwners() {
            for (int number = 0; number < found; number++) {
                for (int minute = begins[number]; minute <= ends[number]; minute++) {
                    ownerOf[minute] = number;
                }
            }
        }

        int weightOfAll() {
            int sum = 0;
            for (int number = 0; number < found; number++) {
                sum += weights[number];
            }
            return sum;
        }

        int heaviest() {
            int best = NONE;
            for (int number = 0; number < found; number++) {
                if (best == NONE || weights[number] > weights[best]) {
                    best = number;
                }
            }
            return best;
        }
    }

    /** Which complaint is matched to which exceedance. */
    private static final class Matches {
        final int[] exceedanceOf = new int[MOST_COMPLAINTS];
        final int[] complaintOf = new int[MOST_EXCEEDANCES];
        final int[] order = new int[MOST_COMPLAINTS];
        int complaints;
        int matched;

        void match(State state, Exceedances exceedances, int patience) {
            complaints = state.complaints;
            matched = 0;
            for (int exceedance = 0; exceedance < exceedances.found; exceedance++) {
                complaintOf[exceedance] = NONE;
            }
            putInOrder(state);
            for (int i = 0; i < complaints; i++) {
                int complaint = order[i];
                int minute = state.complaintMinutes[complaint];
                int exceedance = bestFor(minute, exceedances, patience);
                exceedanceOf[complaint] = exceedance;
                if (exceedance != NONE) {
                    complaintOf[exceedance] = complaint;
                    matched++;
                }
            }
        }

        private void putInOrder(State state) {
            for (int complaint = 0; complaint < complaints; complaint++) {
                int minute = state.complaintMinutes[complaint];
                int place = complaint;
                while (place > 0 && state.complaintMinutes[order[place - 1]] > minute) {
                    order[place] = order[place - 1];
                    place--;
                }
                order[place] = complaint;
            }
        }

        private int bestFor(int minute, Exceedances exceedances, int patience) {
            int best = NONE;
            for (int number = 0; number < exceedances.found; number++) {
                boolean free = complaintOf[number] == NONE;
                boolean near = exceedances.begins[number] <= minute && exceedances.ends[number] >= minute - patience;
                if (free && near && (best == NONE || exceedances.peaks[number] > exceedances.peaks[best])) {
                    best = number;
                }
            }
            return best;
        }
    }

    /** In how many counted minutes the fast arm reaches each level. */
    private static final class LevelCounts {
        final int[] reached = new int[MOST_LEVEL + 1];

        void tally(Minutes minutes) {
            for (int level = 0; level <= MOST_LEVEL; level++) {
                reached[level] = 0;
            }
            for (int minute = 0; minute < minutes.told; minute++) {
                if (minutes.isCounted(minute)) {
                    reached[highestReached(minutes.fast[minute])]++;
                }
            }
            for (int level = MOST_LEVEL - 1; level >= 0; level--) {
                reached[level] += reached[level + 1];
            }
        }

        private static int highestReached(int place) {
            return Math.max(0, Math.min(MOST_LEVEL, place / TENTHS));
        }

        int levelOfPercent(int percent, int counted) {
            if (counted < 1) {
                return NONE;
            }
            for (int level = MOST_LEVEL; level > 0; level--) {
                if (reached[level] * 100 >= percent * counted) {
                    return level;
                }
            }
            return 0;
        }
    }
}
