import java.util.NoSuchElementException;

/** A bowl of toffees at the door that is to last the evening: what to give now, and what it is worth. */
public final class LastsEvening {
    /** None. */
    public static final int NONE = -1;

    private static final int QUARTERS_MOST = 24;
    private static final int BOWL_MOST = 120;
    private static final int APPLES_MOST = 12;
    private static final int HABITS_MOST = 4;
    private static final int CALLS_MOST = 8;
    private static final int LINES_MOST = 60;
    private static final int SIGNS_MOST = 1000;
    private static final int UNDO_MOST = 16;
    private static final int MARKS = 4;
    private static final int EVENINGS_MOST = 20;
    private static final int SEED_MOST = 9999;
    private static final int SHEETS_MOST = 8;
    private static final int WHOLE = 1000000;
    private static final int APPLE = 4;
    private static final int TABLE_MOST = QUARTERS_MOST * (BOWL_MOST + 1) * (APPLES_MOST + 1) * 2;

    // The words of the language, told by their place in WORDS; those from TOFFEES on may be names, too.
    private static final String WORDS =
        "house bowl apples worths left without eggs word dark rain twice calls habit worth from to come give quarter off not and or toffees reserve time rest here ";
    private static final int HOUSE = 0;
    private static final int BOWL = 1;
    private static final int APPLES = 2;
    private static final int WORTHS = 3;
    private static final int LEFT = 4;
    private static final int WITHOUT = 5;
    private static final int EGGS = 6;
    private static final int WORD = 7;
    private static final int DARK = 8;
    private static final int RAIN = 9;
    private static final int TWICE = 10;
    private static final int CALLS = 11;
    private static final int HABIT = 12;
    private static final int WORTH = 13;
    private static final int FROM = 14;
    private static final int TO = 15;
    private static final int COME = 16;
    private static final int GIVE = 17;
    private static final int QUARTER = 18;
    private static final int OFF = 19;
    private static final int NOT = 20;
    private static final int AND = 21;
    private static final int OR = 22;
    private static final int TOFFEES = 23;
    private static final int RESERVE = 24;
    private static final int TIME = 25;
    private static final int REST = 26;
    private static final int HERE = 27;

    private final Tape tape = new Tape();
    private final House house = new House();
    private final House houseRead = new House();
    private final Script script = new Script();
    private final Script scriptRead = new Script();
    private final Reader reader = new Reader(tape, houseRead, scriptRead);
    private final Night now = new Night();
    private final Night trial = new Night();
    private final Night[] past = new Night[UNDO_MOST];
    private int pastNext = 0;
    private int pastCount = 0;
    private final Mark[] marks = new Mark[MARKS];
    private final Values dry = new Values(house, false, true);
    private final Values wet = new Values(house, true, true);
    private final Values wordless = new Values(house, false, false);
    private final Means means = new Means(house);
    private final Readings readings = new Readings(house, means);
    private final Shares shares = new Shares(house);

    /** House 1, nothing else. */
    public LastsEvening() {
        for (int i = 0; i < past.length; i++) {
            past[i] = new Night();
        }
        for (int i = 0; i < marks.length; i++) {
            marks[i] = new Mark();
        }
        moveIn();
    }

    /** Puts up to 24 signs behind the tape, and tells how many are on it. */
    public int feed(long a, long b, long c) {
        tape.take(a);
        tape.take(b);
        tape.take(c);
        return tape.length;
    }

    /** Reads the tape as a house: 0, or its fault. */
    public int house() {
        int fault = reader.readHouse();
        tape.length = 0;
        if (fault == 0) {
            moveIn();
        }
        return fault;
    }

    /** Reads the tape as an evening: 0, or its fault. */
    public int evening() {
        int fault = reader.readEvening();
        tape.length = 0;
        if (fault == 0) {
            script.copy(scriptRead);
        }
        return fault;
    }

    /** Of ten, that so many come in a quarter. */
    public int calls(int quarter, int many) {
        if (quarter < 0 || quarter >= house.quarters || many < 0 || many > 3) {
            return NONE;
        }
        return house.chance(false, quarter, many);
    }

    /** So many come. */
    public boolean come(int many) {
        if (!now.canCome(house, many)) {
            return false;
        }
        keepForUndo();
        now.arrive(house, many);
        return true;
    }

    /** Gives to those who are here, and tells what it is worth. */
    public int give(int how) throws NoSuchElementException {
        if (how < 0 || how > APPLE || !now.canBeGiven()) {
            throw new NoSuchElementException();
        }
        keepForUndo();
        return now.hand(house, how);
    }

    /** Goes on to the next quarter, and tells which it is. */
    public int quarter() {
        if (now.isOver(house)) {
            return NONE;
        }
        keepForUndo();
        now.pass(house);
        return now.quarter;
    }

    /** Turns the light off for good. */
    public boolean off() {
        if (!isOpen()) {
            return false;
        }
        keepForUndo();
        now.darken();
        return true;
    }

    /** Takes back what was done last. */
    public boolean undo() {
        if (pastCount <= 0) {
            return false;
        }
        pastNext = (pastNext + UNDO_MOST - 1) % UNDO_MOST;
        pastCount--;
        now.copy(nightAt(past, pastNext));
        return true;
    }

    /** Plays the evening that was read, and tells what is wrong in it or its score. */
    public int judged(int what) throws NoSuchElementException {
        if (what < 0 || what > 2) {
            throw new NoSuchElementException();
        }
        int cannotBe = NONE;
        int notBest = NONE;
        trial.begin(house);
        for (int line = 0; line < script.size; line++) {
            int act = at(script.acts, line);
            int number = at(script.numbers, line);
            if (what == 1 && notBest == NONE && act == GIVE && trial.canBeGiven()
                && number != dry.bestGive(trial.quarter, trial.toffees, trial.apples, trial.here)) {
                notBest = line;
            }
            if (!trial.act(house, act, number) && cannotBe == NONE) {
                cannotBe = line;
            }
        }
        return what == 0 ? cannotBe : what == 1 ? notBest : trial.score;
    }

    /** What a quarter is worth that begins so, in thousandths. */
    public int value(int quarter, int toffees, int apples, boolean word) throws NoSuchElementException {
        if (quarter < 0 || quarter > house.quarters || toffees < 0 || toffees > house.bowl
            || apples < 0 || apples > house.apples) {
            throw new NoSuchElementException();
        }
        return dry.worthFrom(quarter, toffees, apples, word);
    }

    /** The best to give if so many were here now. */
    public int best(int here) {
        if (here < 1 || here > 4 || !isOpen()) {
            return NONE;
        }
        return dry.bestGive(now.quarter, now.toffees, now.apples, here);
    }

    /** What all comes to by the best to give to so many. */
    public int may(int here) throws NoSuchElementException {
        if (here < 0 || here > 4 || !isOpen()) {
            throw new NoSuchElementException();
        }
        return dry.bestWorth(now.quarter, now.toffees, now.apples, here);
    }

    /** 1 if the light had better stay on. */
    public int stay() {
        if (!isOpen()) {
            return NONE;
        }
        int lit = dry.litWorth(now.quarter, now.toffees, now.apples, now.word);
        return lit >= house.offWorth(now.quarter, now.toffees) ? 1 : 0;
    }

    /** What a habit is worth from now on, in thousandths. */
    public int mean(int habit) throws NoSuchElementException {
        if (!hasHabit(habit) || !now.lit) {
            throw new NoSuchElementException();
        }
        return means.worthOf(habit, house.quarters, now);
    }

    /** How many toffees a habit leaves on the mean, in thousandths. */
    public int left(int habit) throws NoSuchElementException {
        if (!hasHabit(habit) || !now.lit) {
            throw new NoSuchElementException();
        }
        return means.leftBy(habit, now);
    }

    /** The quarter at whose beginning the light had best go off, by a habit. */
    public int close(int habit) {
        if (!hasHabit(habit) || !now.lit) {
            return NONE;
        }
        int bestQuarter = now.quarter;
        int bestMean = means.worthOf(habit, bestQuarter, now);
        for (int until = now.quarter + 1; until <= house.quarters; until++) {
            int mean = means.worthOf(habit, until, now);
            if (mean > bestMean) {
                bestMean = mean;
                bestQuarter = until;
            }
        }
        return bestQuarter;
    }

    /** How surely none goes without if each gets so many, in millionths. */
    public int surely(int each) {
        if (each < 1 || each > 3 || !now.lit) {
            return NONE;
        }
        return shares.sureness(each, now);
    }

    /** How much each may get so that none goes without by so many millionths. */
    public int most(int millionths) {
        if (millionths < 0 || millionths > WHOLE || !now.lit) {
            return NONE;
        }
        for (int each = 3; each >= 1; each--) {
            if (shares.sureness(each, now) >= millionths) {
                return each;
            }
        }
        return NONE;
    }

    /** The fewest toffees with which none goes without by so many millionths. */
    public int enough(int each, int millionths) {
        if (each < 1 || each > 3 || millionths < 0 || millionths > WHOLE || !now.lit) {
            return NONE;
        }
        return shares.fewest(each, millionths, now);
    }

    /** With how many toffees now the value is the greatest. */
    public int peak(int apples) {
        if (apples < 0 || apples > house.apples || !isOpen()) {
            return NONE;
        }
        int bestToffees = 0;
        int bestValue = dry.worthFrom(now.quarter, 0, apples, now.word);
        for (int toffees = 1; toffees <= house.bowl; toffees++) {
            int value = dry.worthFrom(now.quarter, toffees, apples, now.word);
            if (value > bestValue) {
                bestValue = value;
                bestToffees = toffees;
            }
        }
        return bestToffees;
    }

    /** The habit that is worth most from now on. */
    public int habits() {
        if (!now.lit || house.habits == 0) {
            return NONE;
        }
        int bestHabit = 0;
        int bestMean = means.worthOf(0, house.quarters, now);
        for (int habit = 1; habit < house.habits; habit++) {
            int mean = means.worthOf(habit, house.quarters, now);
            if (mean > bestMean) {
                bestMean = mean;
                bestHabit = habit;
            }
        }
        return bestHabit;
    }

    /** What it is worth that word goes round. */
    public int talk() throws NoSuchElementException {
        if (!isOpen()) {
            throw new NoSuchElementException();
        }
        return dry.worthFrom(now.quarter, now.toffees, now.apples, now.word)
            - wordless.worthFrom(now.quarter, now.toffees, now.apples, false);
    }

    /** What it is worth to be one house with a neighbour who has so many toffees. */
    public int fence(int toffees) throws NoSuchElementException {
        if (toffees < 0 || toffees > BOWL_MOST || !isOpen()) {
            throw new NoSuchElementException();
        }
        return shares.overFence(now.quarter, now.toffees, toffees);
    }

    /** How surely it is a wet night, in millionths. */
    public int rains() {
        return now.rains;
    }

    /** The value of now by how surely it is a wet night. */
    public int tonight() throws NoSuchElementException {
        if (!isOpen()) {
            throw new NoSuchElementException();
        }
        long inRain = wet.worthFrom(now.quarter, now.toffees, now.apples, now.word);
        long inDry = dry.worthFrom(now.quarter, now.toffees, now.apples, now.word);
        return (int) ((inRain * now.rains + inDry * (WHOLE - now.rains)) / WHOLE);
    }

    /** What so many toffees at the beginning of a quarter tell of how many came. */
    public int read(int habit, int quarter, int toffees, int what) {
        if (!hasHabit(habit) || quarter < 0 || quarter > house.quarters || toffees < 0 || toffees > BOWL_MOST
            || what < 0 || what > 1) {
            return NONE;
        }
        readings.tell(habit, quarter);
        return what == 0 ? readings.chanceOf(toffees) : readings.likeliest(toffees);
    }

    /** How likely so many of the callers come for the second time, in millionths. */
    public int sheets(int callers, int twice) {
        if (callers < 0 || callers > SHEETS_MOST || twice < 0 || twice > callers) {
            return NONE;
        }
        long ways = 1;
        long chance = WHOLE;
        long all = 1;
        for (int i = 0; i < callers; i++) {
            chance *= i < twice ? house.twice : 10 - house.twice;
            all *= 10;
        }
        for (int i = 1; i <= twice; i++) {
            ways = ways * (callers - twice + i) / i;
        }
        return all > 0 ? (int) (ways * chance / all) : NONE;
    }

    /** Evenings drawn by a seed, kept by a habit. */
    public int years(int seed, int evenings, int habit, int what) {
        if (seed < 0 || seed > SEED_MOST || evenings < 1 || evenings > EVENINGS_MOST || !hasHabit(habit)
            || what < 0 || what > 2) {
            return NONE;
        }
        long drawn = seed;
        int scores = 0;
        int toffees = 0;
        int without = 0;
        for (int i = 0; i < evenings; i++) {
            drawn = drawEvening(drawn, habit);
            scores += trial.score;
            toffees += trial.toffees;
            without += trial.without;
        }
        return what == 0 ? Math.max(0, scores) : what == 1 ? toffees : without;
    }

    /** Lays a mark, or goes back to it. */
    public boolean mark(int mark, boolean back) {
        if (mark < 0 || mark >= marks.length) {
            return false;
        }
        Mark there = marks[mark];
        if (there == null || back && !there.laid) {
            return false;
        }
        if (back) {
            now.copy(there.night);
            script.copy(there.script);
            forgetPast();
        } else {
            there.night.copy(now);
            there.script.copy(script);
            there.laid = true;
        }
        return true;
    }

    /** All that the evening came to till now. */
    public int score() {
        return now.score;
    }

    /** Counts what there is. */
    public int count(int what) {
        switch (what) {
            case 0: return house.quarters;
            case 1: return now.quarter;
            case 2: return now.toffees;
            case 3: return now.apples;
            case 4: return now.here;
            case 5: return now.given ? 1 : 0;
            case 6: return now.lit ? 1 : 0;
            case 7: return now.word ? 1 : 0;
            case 8: return house.habits;
            case 9: return now.comers;
            case 10: return now.without;
            case 11: return script.size;
            case 12: return pastCount;
            case 13: return tape.length;
            case 14: return now.came ? 1 : 0;
            default: return NONE;
        }
    }

    /** Makes the house that was read last the house, and begins its evening. */
    private void moveIn() {
        house.copy(houseRead);
        now.begin(house);
        script.size = 0;
        forgetPast();
        for (int i = 0; i < marks.length; i++) {
            if (marks[i] != null) {
                marks[i].laid = false;
            }
        }
        dry.begin();
        wet.begin();
        wordless.begin();
    }

    private void forgetPast() {
        pastNext = 0;
        pastCount = 0;
    }

    private void keepForUndo() {
        Night kept = nightAt(past, pastNext);
        if (kept != null) {
            kept.copy(now);
        }
        pastNext = (pastNext + 1) % UNDO_MOST;
        pastCount = Math.min(UNDO_MOST, pastCount + 1);
    }

    private boolean isOpen() {
        return now.lit && !now.isOver(house);
    }

    private boolean hasHabit(int habit) {
        return habit >= 0 && habit < house.habits;
    }

    /** Plays one evening on the trial night, and tells what was drawn last. */
    private long drawEvening(long seed, int habit) {
        long drawn = seed;
        trial.begin(house);
        for (int quarter = 0; quarter < house.quarters; quarter++) {
            drawn = (drawn * 1103515245L + 12345L) % 2147483648L;
            int many = callersDrawn(quarter, (int) (drawn / 65536L % 10L)) + (trial.word ? 1 : 0);
            trial.arrive(house, many);
            if (many > 0) {
                trial.hand(house, means.giveOf(habit, quarter, trial.toffees, trial.apples, many));
            }
            trial.pass(house);
        }
        return drawn;
    }

    private int callersDrawn(int quarter, int draw) {
        int below = 0;
        for (int many = 0; many < 3; many++) {
            below += house.chance(false, quarter, many);
            if (draw < below) {
                return many;
            }
        }
        return 3;
    }

    private static Night nightAt(Night[] nights, int i) {
        return i >= 0 && i < nights.length ? nights[i] : null;
    }

    private static int at(int[] row, int i) {
        return i >= 0 && i < row.length ? row[i] : 0;
    }

    private static void put(int[] row, int i, int number) {
        if (i >= 0 && i < row.length) {
            row[i] = number;
        }
    }

    private static void copyRow(int[] row, int[] from, int size) {
        for (int i = 0; i < size && i < row.length && i < from.length; i++) {
            row[i] = from[i];
        }
    }

    /** The row itself if it is long enough; else one twice as long as asked, so that few are ever made. */
    private static int[] roomFor(int[] row, int need) {
        if (need <= row.length) {
            return row;
        }
        int size = need <= TABLE_MOST / 2 ? need * 2 : Math.max(need, TABLE_MOST);
        return size >= 0 ? new int[size] : row;
    }

    /** The signs that were fed, the token that is read just now, and the first fault, behind which nothing is read. */
    private static final class Tape {
        static final int NO_TOKEN = 0;
        static final int NUMBER = 1;
        static final int NAME = 2;
        static final int END = 3;

        final byte[] signs = new byte[SIGNS_MOST];
        int length = 0;
        // A sign's token has the sign itself as its kind.
        int kind = END;
        int place = 0;
        int size = 0;
        int number = 0;
        int word = NONE;
        // The letters of a word as one number.
        long letters = 0;
        int fault = 0;
        private final long[] words = new long[HERE + 1];

        Tape() {
            int index = 0;
            for (int i = 0; i < WORDS.length(); i++) {
                if (WORDS.charAt(i) == ' ') {
                    index++;
                } else if (index < words.length) {
                    words[index] = joined(words[index], WORDS.charAt(i));
                }
            }
        }

        /** Takes the eight bytes of a number, the highest first. */
        void take(long bytes) {
            for (int shift = 56; shift >= 0; shift -= 8) {
                int sign = (int) (bytes >> shift & 255L);
                if ((sign == 10 || sign >= 32 && sign <= 126) && length >= 0 && length < signs.length) {
                    signs[length] = (byte) sign;
                    length++;
                }
            }
        }

        void rewind() {
            fault = 0;
            place = 0;
            size = 0;
            step();
        }

        /** Only the first fault counts. */
        void blame(int kindOfFault) {
            if (fault == 0) {
                fault = kindOfFault + 16 * place;
            }
        }

        /** Goes on to the next token, but not behind a fault. */
        void step() {
            if (fault != 0) {
                return;
            }
            skipBlanks();
            int first = signAt(place);
            number = 0;
            word = NONE;
            size = 1;
            if (first == NONE) {
                kind = END;
                size = 0;
            } else if (isLetter(first)) {
                readWord();
            } else if (isDigit(first)) {
                readNumber();
            } else {
                kind = "()<=+-*;".indexOf((char) first) >= 0 ? first : NO_TOKEN;
            }
        }

        boolean isWord(int wanted) {
            return kind == NAME && word == wanted;
        }

        boolean isNumber(int low, int high) {
            return kind == NUMBER && number >= low && number <= high;
        }

        private void skipBlanks() {
            place += size;
            for (int i = place; i < length && (signAt(i) == 10 || signAt(i) == 32); i++) {
                place++;
            }
        }

        private void readWord() {
            letters = 0;
            size = 0;
            for (int i = place; i < length && isLetter(signAt(i)); i++) {
                letters = joined(letters, signAt(i));
                size++;
            }
            kind = size <= 8 ? NAME : NO_TOKEN;
            for (int i = 0; i < words.length && kind == NAME; i++) {
                if (words[i] == letters) {
                    word = i;
                }
            }
        }

        private void readNumber() {
            size = 0;
            for (int i = place; i < length && isDigit(signAt(i)); i++) {
                number = number * 10 + signAt(i) - '0';
                size++;
            }
            kind = size <= 4 ? NUMBER : NO_TOKEN;
        }

        private int signAt(int i) {
            return i >= 0 && i < length && i < signs.length ? signs[i] : NONE;
        }

        private static boolean isLetter(int sign) {
            return sign >= 'a' && sign <= 'z';
        }

        private static boolean isDigit(int sign) {
            return sign >= '0' && sign <= '9';
        }

        private static long joined(long letters, int letter) {
            return letters * 32L + (letter - 'a' + 1);
        }
    }

    /** Reads a tape as a house or an evening. */
    private static final class Reader {
        private static final int MISPLACED = 1;
        private static final int AGAIN = 3;
        private static final int NOT_AS_TOLD = 4;
        private static final int TOO_MANY = 5;
        private static final int WITHIN_MOST = 5;

        private final Tape tape;
        private final House house;
        private final Script script;
        private final long[] names = new long[HABITS_MOST];
        private final boolean[] told = new boolean[TWICE + 1];
        private final boolean[] called = new boolean[QUARTERS_MOST];
        private int callsTold = 0;

        Reader(Tape tape, House house, Script script) {
            this.tape = tape;
            this.house = house;
            this.script = script;
        }

        /** 0, or the fault. */
        int readHouse() {
            house.begin();
            callsTold = 0;
            for (int i = 0; i < told.length; i++) {
                told[i] = false;
            }
            for (int i = 0; i < called.length; i++) {
                called[i] = false;
            }
            tape.rewind();
            keyword(HOUSE);
            house.quarters = number(1, QUARTERS_MOST);
            sign(';');
            for (int lines = 0; lines <= SIGNS_MOST && hasMore(); lines++) {
                houseLine();
            }
            house.settle();
            return tape.fault;
        }

        /** 0, or the fault. */
        int readEvening() {
            script.size = 0;
            tape.rewind();
            for (int lines = 0; lines <= SIGNS_MOST && hasMore(); lines++) {
                eveningLine();
            }
            return tape.fault;
        }

        private boolean hasMore() {
            return tape.fault == 0 && tape.kind != Tape.END;
        }

        private void eveningLine() {
            int act = tape.kind == Tape.NAME ? tape.word : NONE;
            if (act < COME || act > OFF) {
                tape.blame(MISPLACED);
            } else if (script.size >= LINES_MOST) {
                tape.blame(TOO_MANY);
            } else {
                tape.step();
                int many = act == COME || act == GIVE ? number(0, 4) : 0;
                sign(';');
                script.add(act, many);
            }
        }

        private void houseLine() {
            int word = tape.kind == Tape.NAME ? tape.word : NONE;
            if (word == CALLS) {
                callsLine();
            } else if (word == HABIT) {
                habitLine();
            } else if (word < BOWL || word >= told.length) {
                tape.blame(MISPLACED);
            } else if (told[word]) {
                tape.blame(AGAIN);
            } else {
                told[word] = true;
                tape.step();
                if (word == WORTHS) {
                    worthsLine();
                } else {
                    plainLine(word);
                }
                sign(';');
            }
        }

        private void plainLine(int word) {
            switch (word) {
                case BOWL:
                    house.bowl = number(0, BOWL_MOST);
                    break;
                case APPLES:
                    house.apples = number(0, APPLES_MOST);
                    keyword(WORTH);
                    house.appleWorth = number(0, 99);
                    break;
                case LEFT:
                    house.leftCost = number(0, 99);
                    break;
                case WITHOUT:
                    house.withoutCost = number(0, 99);
                    break;
                case EGGS:
                    house.eggsCost = number(0, 99);
                    keyword(FROM);
                    house.eggsFrom = number(0, house.quarters - 1);
                    break;
                case WORD:
                    house.word = number(1, 3);
                    break;
                case DARK:
                    house.darkCost = number(0, 99);
                    break;
                case RAIN:
                    house.rain = number(0, 10);
                    break;
                default:
                    house.twice = number(0, 10);
            }
        }

        private void worthsLine() {
            int worth = 99;
            int sum = 0;
            for (int i = 1; i <= 3; i++) {
                worth = number(0, worth);
                sum += worth;
                put(house.worths, i, sum);
            }
        }

        private void callsLine() {
            if (callsTold >= CALLS_MOST) {
                tape.blame(TOO_MANY);
                return;
            }
            callsTold++;
            tape.step();
            int from = number(0, house.quarters - 1);
            keyword(TO);
            if (tape.isNumber(from, house.quarters - 1) && isCalled(from, tape.number)) {
                tape.blame(AGAIN);
            }
            int to = number(from, house.quarters - 1);
            int sum = 0;
            for (int many = 0; many <= 3; many++) {
                if (many == 3 && tape.isNumber(0, 10) && sum + tape.number != 10) {
                    tape.blame(NOT_AS_TOLD);
                }
                int chance = number(0, 10);
                sum += chance;
                for (int quarter = from; quarter <= to; quarter++) {
                    put(house.chances, quarter * 4 + many, chance);
                }
            }
            sign(';');
            markCalled(from, to);
        }

        private boolean isCalled(int from, int to) {
            for (int quarter = from; quarter <= to; quarter++) {
                if (quarter >= 0 && quarter < called.length && called[quarter]) {
                    return true;
                }
            }
            return false;
        }

        private void markCalled(int from, int to) {
            for (int quarter = from; quarter <= to; quarter++) {
                if (quarter >= 0 && quarter < called.length) {
                    called[quarter] = true;
                }
            }
        }

        private void habitLine() {
            int habit = house.habits;
            if (habit < 0 || habit >= HABITS_MOST || habit >= names.length) {
                tape.blame(TOO_MANY);
                return;
            }
            tape.step();
            if (tape.kind != Tape.NAME || tape.word != NONE && tape.word < TOFFEES) {
                tape.blame(MISPLACED);
            } else if (isNamed(tape.letters)) {
                tape.blame(AGAIN);
            }
            names[habit] = tape.letters;
            tape.step();
            either(0);
            sign(';');
            house.endHabit();
        }

        private boolean isNamed(long letters) {
            for (int i = 0; i < house.habits && i < names.length; i++) {
                if (names[i] == letters) {
                    return true;
                }
            }
            return false;
        }

        /** E: tests joined by and, or, from the left. */
        private void either(int within) {
            test(within);
            for (int i = 0; i < SIGNS_MOST && hasMore() && (tape.isWord(AND) || tape.isWord(OR)); i++) {
                int how = tape.isWord(AND) ? House.BOTH : House.ONE;
                tape.step();
                test(within);
                house.write(how);
            }
        }

        private void test(int within) {
            sum(within);
            if (hasMore() && (tape.kind == '<' || tape.kind == '=')) {
                int how = tape.kind == '<' ? House.LESS : House.SAME;
                tape.step();
                sum(within);
                house.write(how);
            }
        }

        private void sum(int within) {
            product(within);
            for (int i = 0; i < SIGNS_MOST && hasMore() && (tape.kind == '+' || tape.kind == '-'); i++) {
                int how = tape.kind == '+' ? House.PLUS : House.MINUS;
                tape.step();
                product(within);
                house.write(how);
            }
        }

        private void product(int within) {
            part(within);
            for (int i = 0; i < SIGNS_MOST && hasMore() && tape.kind == '*'; i++) {
                tape.step();
                part(within);
                house.write(House.TIMES);
            }
        }

        private void part(int within) {
            boolean isFact = tape.kind == Tape.NAME && tape.word >= TOFFEES;
            boolean isPlain = tape.kind == Tape.NUMBER || isFact;
            boolean isNot = tape.isWord(NOT);
            if (!isPlain && !isNot && tape.kind != '(') {
                tape.blame(MISPLACED);
            } else if (within >= WITHIN_MOST) {
                tape.blame(TOO_MANY);
            } else if (isPlain) {
                house.write(isFact ? TOFFEES - 1 - tape.word : tape.number);
                tape.step();
            } else if (isNot) {
                tape.step();
                part(within + 1);
                house.write(House.NO);
            } else {
                tape.step();
                either(within + 1);
                if (tape.kind != ')') {
                    tape.blame(MISPLACED);
                }
                tape.step();
            }
        }

        private void keyword(int word) {
            if (!tape.isWord(word)) {
                tape.blame(MISPLACED);
            }
            tape.step();
        }

        private void sign(int sign) {
            if (tape.kind != sign) {
                tape.blame(MISPLACED);
            }
            tape.step();
        }

        /** The number that stands here, if it is one from low to high; behind a fault 0. */
        private int number(int low, int high) {
            int number = tape.number;
            if (tape.kind != Tape.NUMBER) {
                tape.blame(MISPLACED);
            } else if (!tape.isNumber(low, high)) {
                tape.blame(NOT_AS_TOLD);
            }
            tape.step();
            return tape.fault == 0 ? number : 0;
        }
    }

    /** A house as it was told, its habits as steps that work on a pile: numbers, facts, and what joins them. */
    private static final class House {
        // Facts are -1 (toffees) to -5 (here).
        static final int NO = -6;
        static final int BOTH = -7;
        static final int ONE = -8;
        static final int LESS = -9;
        static final int SAME = -10;
        static final int PLUS = -11;
        static final int MINUS = -12;
        static final int TIMES = -13;

        int quarters = 1;
        int bowl = 0;
        int apples = 0;
        int appleWorth = 0;
        int leftCost = 0;
        int withoutCost = 0;
        int eggsCost = 0;
        int eggsFrom = QUARTERS_MOST;
        int word = 0;
        int darkCost = 0;
        int rain = 0;
        int twice = 0;
        int habits = 0;
        int written = 0;
        // What so many toffees are worth to one, the first, second, third together.
        final int[] worths = new int[4];
        final int[] chances = new int[QUARTERS_MOST * 4];
        final int[] wetChances = new int[QUARTERS_MOST * 4];
        final int[] steps = new int[SIGNS_MOST];
        final int[] ends = new int[HABITS_MOST];

        House() {
            begin();
            settle();
        }

        /** House 1, nothing else. */
        void begin() {
            quarters = 1;
            bowl = 0;
            apples = 0;
            appleWorth = 0;
            leftCost = 0;
            withoutCost = 0;
            eggsCost = 0;
            eggsFrom = QUARTERS_MOST;
            word = 0;
            darkCost = 0;
            rain = 0;
            twice = 0;
            habits = 0;
            written = 0;
            put(worths, 1, 3);
            put(worths, 2, 5);
            put(worths, 3, 6);
            for (int i = 0; i < chances.length; i++) {
                chances[i] = i % 4 == 0 ? 10 : 0;
            }
        }

        /** On a wet night one fewer comes, but never fewer than none. */
        void settle() {
            for (int quarter = 0; quarter < QUARTERS_MOST; quarter++) {
                int first = quarter * 4;
                put(wetChances, first, at(chances, first) + at(chances, first + 1));
                put(wetChances, first + 1, at(chances, first + 2));
                put(wetChances, first + 2, at(chances, first + 3));
                put(wetChances, first + 3, 0);
            }
        }

        void copy(House other) {
            quarters = other.quarters;
            bowl = other.bowl;
            apples = other.apples;
            appleWorth = other.appleWorth;
            leftCost = other.leftCost;
            withoutCost = other.withoutCost;
            eggsCost = other.eggsCost;
            eggsFrom = other.eggsFrom;
            word = other.word;
            darkCost = other.darkCost;
            rain = other.rain;
            twice = other.twice;
            habits = other.habits;
            written = other.written;
            copyRow(worths, other.worths, 4);
            copyRow(chances, other.chances, QUARTERS_MOST * 4);
            copyRow(wetChances, other.wetChances, QUARTERS_MOST * 4);
            copyRow(steps, other.steps, other.written);
            copyRow(ends, other.ends, other.habits);
        }

        void write(int step) {
            put(steps, written, step);
            written++;
        }

        void endHabit() {
            put(ends, habits, written);
            habits++;
        }

        int chance(boolean isWet, int quarter, int many) {
            return at(isWet ? wetChances : chances, quarter * 4 + many);
        }

        /** How many places a table of its quarters has. */
        int size() {
            return quarters * (bowl + 1) * (apples + 1) * 2;
        }

        int placeOf(int quarter, int toffees, int stock, boolean isOut) {
            return ((quarter * (bowl + 1) + toffees) * (apples + 1) + stock) * 2 + (isOut ? 1 : 0);
        }

        /** What turning the light off at the beginning of a quarter comes to, in thousandths. */
        int offWorth(int quarter, int toffees) {
            return -1000 * (darkCost * (quarters - quarter) + leftCost * toffees);
        }

        int toffeesTaken(int toffees, int here, int how) {
            return how == APPLE ? 0 : Math.min(toffees, here * how);
        }

        int applesTaken(int stock, int here, int how) {
            return how == APPLE ? Math.min(stock, here) : 0;
        }

        /** How many get something. */
        int served(int toffees, int stock, int here, int how) {
            if (how == APPLE) {
                return Math.min(stock, here);
            }
            return how <= 0 ? 0 : Math.min(here, (toffees + how - 1) / how);
        }

        /** What it is worth to give so. */
        int worthOf(int quarter, int toffees, int stock, int here, int how) {
            int served = served(toffees, stock, here, how);
            int without = (here - served) * (quarter >= eggsFrom ? eggsCost : withoutCost);
            if (how == APPLE) {
                return served * appleWorth - without;
            }
            int taken = Math.min(toffees, here * how);
            int full = how > 0 ? taken / how : 0;
            return full * at(worths, how) + at(worths, taken - full * how) - without;
        }

        /** Whether a word goes round when so many were given so. */
        boolean spreads(int here, int how) {
            return word > 0 && here > 0 && how >= word && how < APPLE;
        }
    }

    /** The lines of an evening. */
    private static final class Script {
        final int[] acts = new int[LINES_MOST];
        final int[] numbers = new int[LINES_MOST];
        int size = 0;

        void add(int act, int number) {
            put(acts, size, act);
            put(numbers, size, number);
            size++;
        }

        void copy(Script other) {
            size = other.size;
            copyRow(acts, other.acts, size);
            copyRow(numbers, other.numbers, size);
        }
    }

    /** An evening as it goes. */
    private static final class Night {
        int quarter = 0;
        int toffees = 0;
        int apples = 0;
        int here = 0;
        int rains = 0;
        int score = 0;
        int comers = 0;
        int without = 0;
        boolean came = false;
        boolean given = false;
        boolean lit = true;
        // Whether this quarter costs what a dark one costs.
        boolean isDark = false;
        boolean word = false;
        // Whether the word will be out in the next quarter.
        boolean wordNext = false;

        void begin(House house) {
            quarter = 0;
            toffees = house.bowl;
            apples = house.apples;
            here = 0;
            rains = house.rain * (WHOLE / 10);
            score = 0;
            comers = 0;
            without = 0;
            came = false;
            given = false;
            lit = true;
            isDark = false;
            word = false;
            wordNext = false;
        }

        void copy(Night other) {
            if (other == null) {
                return;
            }
            quarter = other.quarter;
            toffees = other.toffees;
            apples = other.apples;
            here = other.here;
            rains = other.rains;
            score = other.score;
            comers = other.comers;
            without = other.without;
            came = other.came;
            given = other.given;
            lit = other.lit;
            isDark = other.isDark;
            word = other.word;
            wordNext = other.wordNext;
        }

        boolean isOver(House house) {
            return quarter >= house.quarters;
        }

        boolean canCome(House house, int many) {
            int usual = word ? many - 1 : many;
            return usual >= 0 && usual <= 3 && !came && lit && !isOver(house);
        }

        boolean canBeGiven() {
            return here > 0 && !given;
        }

        /** Does what a line of an evening says: false if it can't be. */
        boolean act(House house, int act, int number) {
            if (isOver(house)) {
                return false;
            }
            switch (act) {
                case COME:
                    if (!canCome(house, number)) {
                        return false;
                    }
                    arrive(house, number);
                    return true;
                case GIVE:
                    if (!canBeGiven()) {
                        return false;
                    }
                    hand(house, number);
                    return true;
                case QUARTER:
                    pass(house);
                    return true;
                default:
                    if (!lit) {
                        return false;
                    }
                    darken();
                    return true;
            }
        }

        void arrive(House house, int many) {
            int usual = word ? many - 1 : many;
            int inRain = rains * house.chance(true, quarter, usual) / 10;
            int inDry = (WHOLE - rains) * house.chance(false, quarter, usual) / 10;
            if (inRain + inDry > 0) {
                rains = (int) ((long) inRain * WHOLE / (inRain + inDry));
            }
            here = many;
            comers += many;
            came = true;
        }

        int hand(House house, int how) {
            int worth = house.worthOf(quarter, toffees, apples, here, how);
            without += here - house.served(toffees, apples, here, how);
            toffees -= house.toffeesTaken(toffees, here, how);
            apples -= house.applesTaken(apples, here, how);
            wordNext = house.spreads(here, how);
            score += worth;
            given = true;
            return worth;
        }

        void pass(House house) {
            if (canBeGiven()) {
                hand(house, 0);
            }
            if (isDark) {
                score -= house.darkCost;
            }
            quarter++;
            here = 0;
            came = false;
            given = false;
            isDark = !lit;
            word = wordNext;
            wordNext = false;
            if (isOver(house)) {
                score -= house.leftCost * toffees;
            }
        }

        void darken() {
            lit = false;
            isDark = !came;
        }
    }

    /** An evening kept to go back to. */
    private static final class Mark {
        final Night night = new Night();
        final Script script = new Script();
        boolean laid = false;
    }

    /** What quarters are worth by the best to give, a table filled from the last quarter back, as far as asked. */
    private static final class Values {
        private final House house;
        private final boolean isWet;
        private final boolean heedsWord;
        // By how many are here: the greatest of what they are given and the next quarter.
        private final int[] greatest = new int[5];
        private int[] table = new int[0];
        private int filledFrom = 0;

        Values(House house, boolean isWet, boolean heedsWord) {
            this.house = house;
            this.isWet = isWet;
            this.heedsWord = heedsWord;
        }

        /** Forgets all, for another house. */
        void begin() {
            filledFrom = house.quarters;
        }

        int worthFrom(int quarter, int toffees, int apples, boolean word) {
            fillTo(quarter);
            return cell(quarter, toffees, apples, word);
        }

        /** What it is worth to leave the light on in this quarter. */
        int litWorth(int quarter, int toffees, int apples, boolean word) {
            fillTo(quarter + 1);
            weigh(quarter, toffees, apples);
            return litMean(quarter, word);
        }

        int bestWorth(int quarter, int toffees, int apples, int here) {
            fillTo(quarter + 1);
            return greatestOf(quarter, toffees, apples, here);
        }

        /** Of equal ones the first. */
        int bestGive(int quarter, int toffees, int apples, int here) {
            fillTo(quarter + 1);
            int best = 0;
            int most = giveWorth(quarter, toffees, apples, here, 0);
            for (int how = 1; how <= APPLE; how++) {
                int worth = giveWorth(quarter, toffees, apples, here, how);
                if (worth > most) {
                    most = worth;
                    best = how;
                }
            }
            return best;
        }

        private void fillTo(int quarter) {
            if (filledFrom >= house.quarters) {
                table = roomFor(table, house.size());
            }
            for (int q = filledFrom - 1; q >= quarter && q >= 0; q--) {
                for (int toffees = 0; toffees <= house.bowl; toffees++) {
                    int off = house.offWorth(q, toffees);
                    for (int apples = 0; apples <= house.apples; apples++) {
                        weigh(q, toffees, apples);
                        int place = house.placeOf(q, toffees, apples, false);
                        put(table, place, Math.max(off, litMean(q, false)));
                        put(table, place + 1, Math.max(off, litMean(q, true)));
                    }
                }
                filledFrom = q;
            }
        }

        /** Finds the greatest for those numbers that can come, with the word and without it. */
        private void weigh(int quarter, int toffees, int apples) {
            for (int here = 0; here <= 4; here++) {
                boolean canCome = here < 4 && house.chance(isWet, quarter, here) > 0
                    || here > 0 && house.chance(isWet, quarter, here - 1) > 0;
                put(greatest, here, canCome ? greatestOf(quarter, toffees, apples, here) : 0);
            }
        }

        private int litMean(int quarter, boolean word) {
            int sum = 0;
            for (int many = 0; many <= 3; many++) {
                sum += house.chance(isWet, quarter, many) * at(greatest, word ? many + 1 : many);
            }
            return sum / 10;
        }

        private int greatestOf(int quarter, int toffees, int apples, int here) {
            int most = giveWorth(quarter, toffees, apples, here, 0);
            int last = here == 0 ? 0 : apples > 0 ? APPLE : 3;
            for (int how = 1; how <= last; how++) {
                most = Math.max(most, giveWorth(quarter, toffees, apples, here, how));
            }
            return most;
        }

        private int giveWorth(int quarter, int toffees, int apples, int here, int how) {
            return 1000 * house.worthOf(quarter, toffees, apples, here, how)
                + cell(quarter + 1, toffees - house.toffeesTaken(toffees, here, how),
                    apples - house.applesTaken(apples, here, how), heedsWord && house.spreads(here, how));
        }

        private int cell(int quarter, int toffees, int apples, boolean word) {
            if (quarter >= house.quarters) {
                return house.offWorth(house.quarters, toffees);
            }
            return at(table, house.placeOf(quarter, toffees, apples, word));
        }
    }

    /** What habits give, and what they are worth. */
    private static final class Means {
        private final House house;
        private final int[] pile = new int[64];
        private int habit = 0;
        private int until = 0;
        private boolean countsLeft = false;
        // What is known of this round: where the round's number stands in rounds.
        private int[] known = new int[0];
        private int[] rounds = new int[0];
        private int round = 0;

        Means(House house) {
            this.house = house;
        }

        /** What a habit is worth from the beginning of this quarter on, the light going off at that of another one. */
        int worthOf(int of, int offAt, Night now) {
            countsLeft = false;
            return ask(of, offAt, now);
        }

        int leftBy(int of, Night now) {
            countsLeft = true;
            return ask(of, house.quarters, now);
        }

        /** What a habit gives to so many. */
        int giveOf(int of, int quarter, int toffees, int apples, int here) {
            int size = 0;
            int last = of < 0 ? 0 : at(house.ends, of);
            for (int i = of <= 0 ? 0 : at(house.ends, of - 1); i < last; i++) {
                int step = at(house.steps, i);
                if (step >= 0) {
                    put(pile, size, step);
                    size++;
                } else if (step > House.NO) {
                    put(pile, size, fact(step, quarter, toffees, apples, here));
                    size++;
                } else if (step == House.NO) {
                    put(pile, size - 1, at(pile, size - 1) == 0 ? 1 : 0);
                } else {
                    size--;
                    put(pile, size - 1, joined(step, at(pile, size - 1), at(pile, size)));
                }
            }
            return Math.max(0, Math.min(APPLE, at(pile, 0)));
        }

        private int fact(int step, int quarter, int toffees, int apples, int here) {
            switch (TOFFEES - 1 - step) {
                case TOFFEES: return toffees;
                case RESERVE: return apples;
                case TIME: return quarter;
                case REST: return house.quarters - quarter;
                default: return here;
            }
        }

        private static int joined(int step, int one, int other) {
            switch (step) {
                case House.BOTH: return one != 0 && other != 0 ? 1 : 0;
                case House.ONE: return one != 0 || other != 0 ? 1 : 0;
                case House.LESS: return one < other ? 1 : 0;
                case House.SAME: return one == other ? 1 : 0;
                case House.PLUS: return one + other;
                case House.MINUS: return one - other;
                default: return one * other;
            }
        }

        private int ask(int of, int offAt, Night now) {
            known = roomFor(known, house.size());
            rounds = roomFor(rounds, house.size());
            round++;
            habit = of;
            until = offAt;
            return from(now.quarter, now.toffees, now.apples, now.word);
        }

        /** Goes no deeper than there are quarters. */
        private int from(int quarter, int toffees, int apples, boolean word) {
            if (quarter >= until) {
                return countsLeft ? 1000 * toffees : house.offWorth(until, toffees);
            }
            int place = house.placeOf(quarter, toffees, apples, word);
            if (at(rounds, place) == round) {
                return at(known, place);
            }
            int sum = 0;
            for (int many = 0; many <= 3; many++) {
                int chance = house.chance(false, quarter, many);
                if (chance > 0) {
                    int here = word ? many + 1 : many;
                    int how = here > 0 ? giveOf(habit, quarter, toffees, apples, here) : 0;
                    int worth = countsLeft ? 0 : 1000 * house.worthOf(quarter, toffees, apples, here, how);
                    sum += chance * (worth + from(quarter + 1, toffees - house.toffeesTaken(toffees, here, how),
                        apples - house.applesTaken(apples, here, how), house.spreads(here, how)));
                }
            }
            put(known, place, sum / 10);
            put(rounds, place, round);
            return sum / 10;
        }
    }

    /** How likely so many toffees are left when so many came, by a habit, from the first quarter on. */
    private static final class Readings {
        private final House house;
        private final Means means;
        private int width = 1;
        private int[] before = new int[0];
        private int[] after = new int[0];

        Readings(House house, Means means) {
            this.house = house;
            this.means = means;
        }

        void tell(int habit, int quarter) {
            width = house.quarters * 4 + 1;
            int need = (house.bowl + 1) * width * 2;
            before = roomFor(before, need);
            after = roomFor(after, need);
            clear(after, need);
            put(after, placeOf(house.bowl, 0, 0), WHOLE);
            for (int q = 0; q < quarter; q++) {
                int[] old = before;
                before = after;
                after = old;
                clear(after, need);
                spread(habit, q);
                for (int i = 0; i < need; i++) {
                    put(after, i, at(after, i) / 10);
                }
            }
        }

        int chanceOf(int toffees) {
            int sum = 0;
            for (int comers = 0; comers < width; comers++) {
                sum += partOf(toffees, comers);
            }
            return sum;
        }

        /** Of equal ones the fewest; NONE if none is likely. */
        int likeliest(int toffees) {
            int likeliest = NONE;
            int most = 0;
            for (int comers = 0; comers < width; comers++) {
                int chance = partOf(toffees, comers);
                if (chance > most) {
                    most = chance;
                    likeliest = comers;
                }
            }
            return likeliest;
        }

        private int partOf(int toffees, int comers) {
            if (toffees > house.bowl) {
                return 0;
            }
            return at(after, placeOf(toffees, comers, 0)) + at(after, placeOf(toffees, comers, 1));
        }

        private void spread(int habit, int quarter) {
            for (int toffees = 0; toffees <= house.bowl; toffees++) {
                for (int word = 0; word <= 1; word++) {
                    if (isLikely(toffees, word)) {
                        for (int many = 0; many <= 3; many++) {
                            spreadCallers(habit, quarter, toffees, word, many);
                        }
                    }
                }
            }
        }

        private boolean isLikely(int toffees, int word) {
            for (int comers = 0; comers < width; comers++) {
                if (at(before, placeOf(toffees, comers, word)) > 0) {
                    return true;
                }
            }
            return false;
        }

        private void spreadCallers(int habit, int quarter, int toffees, int word, int many) {
            int chance = house.chance(false, quarter, many);
            if (chance == 0) {
                return;
            }
            int here = many + word;
            int how = here > 0 ? means.giveOf(habit, quarter, toffees, 0, here) : 0;
            int rest = toffees - house.toffeesTaken(toffees, here, how);
            int wordNext = house.spreads(here, how) ? 1 : 0;
            for (int comers = 0; comers + here < width; comers++) {
                int part = at(before, placeOf(toffees, comers, word)) * chance;
                if (part > 0) {
                    int place = placeOf(rest, comers + here, wordNext);
                    put(after, place, at(after, place) + part);
                }
            }
        }

        private int placeOf(int toffees, int comers, int word) {
            return (toffees * width + comers) * 2 + word;
        }

        private static void clear(int[] row, int size) {
            for (int i = 0; i < size && i < row.length; i++) {
                row[i] = 0;
            }
        }
    }

    /** What is shared out: so many to each as far as they go, and one bowl for two houses. */
    private static final class Shares {
        private static final int CALLERS_TWO = 6;

        private final int[] theirChances = new int[CALLERS_TWO + 1];
        private final House house;
        private int[] now = new int[BOWL_MOST * 2 + 2];
        private int[] next = new int[BOWL_MOST * 2 + 2];

        Shares(House house) {
            this.house = house;
        }

        int sureness(int each, Night night) {
            goBack(each, night.quarter);
            return at(now, night.toffees * 2 + (night.word ? 1 : 0));
        }

        /** The fewest toffees with which it is as sure; NONE if it is with none. */
        int fewest(int each, int millionths, Night night) {
            goBack(each, night.quarter);
            for (int toffees = 0; toffees <= house.bowl; toffees++) {
                if (at(now, toffees * 2 + (night.word ? 1 : 0)) >= millionths) {
                    return toffees;
                }
            }
            return NONE;
        }

        /** What one house with both bowls is worth less both apart. */
        int overFence(int quarter, int ours, int theirs) {
            int apart = apartOrOne(false, quarter, ours, theirs);
            return apartOrOne(true, quarter, ours, theirs) - apart;
        }

        /** How sure it is, of all toffees, the word out or not, from the last quarter back. */
        private void goBack(int each, int quarter) {
            for (int i = 0; i < now.length; i++) {
                now[i] = WHOLE;
            }
            for (int q = house.quarters - 1; q >= quarter; q--) {
                swap();
                for (int toffees = 0; toffees <= house.bowl; toffees++) {
                    put(now, toffees * 2, sureMean(q, each, toffees, 0));
                    put(now, toffees * 2 + 1, sureMean(q, each, toffees, 1));
                }
            }
        }

        private int sureMean(int quarter, int each, int toffees, int word) {
            int sum = 0;
            for (int many = 0; many <= 3; many++) {
                int here = many + word;
                if (here == 0 || toffees > each * (here - 1)) {
                    int rest = Math.max(0, toffees - each * here);
                    sum += house.chance(false, quarter, many) * at(next, rest * 2 + (house.spreads(here, each) ? 1 : 0));
                }
            }
            return sum / 10;
        }

        private int apartOrOne(boolean isOne, int quarter, int ours, int theirs) {
            int most = isOne ? ours + theirs : Math.max(ours, theirs);
            for (int toffees = 0; toffees <= most; toffees++) {
                put(now, toffees, house.offWorth(house.quarters, toffees));
            }
            for (int q = house.quarters - 1; q >= quarter; q--) {
                swap();
                setChances(isOne, q);
                for (int toffees = 0; toffees <= most; toffees++) {
                    put(now, toffees, plainMean(q, toffees));
                }
            }
            return isOne ? at(now, most) : at(now, ours) + at(now, theirs);
        }

        /** In hundredths, of one house's callers or of both's together. */
        private void setChances(boolean isOne, int quarter) {
            for (int here = 0; here <= CALLERS_TWO; here++) {
                put(theirChances, here, 0);
            }
            for (int many = 0; many <= 3; many++) {
                int chance = house.chance(false, quarter, many);
                for (int others = 0; others <= 3; others++) {
                    int other = isOne ? house.chance(false, quarter, others) : others == 0 ? 10 : 0;
                    put(theirChances, many + others, at(theirChances, many + others) + chance * other);
                }
            }
        }

        private int plainMean(int quarter, int toffees) {
            long sum = 0;
            for (int here = 0; here <= CALLERS_TWO; here++) {
                int chance = at(theirChances, here);
                if (chance > 0) {
                    sum += (long) chance * plainGreatest(quarter, toffees, here);
                }
            }
            return (int) (sum / 100);
        }

        /** By giving 0 to 3 toffees. */
        private int plainGreatest(int quarter, int toffees, int here) {
            int most = 0;
            for (int how = 0; how <= 3; how++) {
                int worth = 1000 * house.worthOf(quarter, toffees, 0, here, how)
                    + at(next, toffees - house.toffeesTaken(toffees, here, how));
                most = how == 0 ? worth : Math.max(most, worth);
            }
            return most;
        }

        private void swap() {
            int[] old = now;
            now = next;
            next = old;
        }
    }
}
