import java.util.NoSuchElementException;

/** A republic in which nobody may read the code and each has been told another clause. */
public final class EarCode {
    public static final int NONE = -1;

    private static final int DEEDS = 8;
    private static final int PLACES = 8;
    private static final int MATTERS = 64;
    private static final int MOST_BYTES = 400;
    private static final int FED_BYTES = 20;
    private static final int MOST_CLAUSES = 12;
    private static final int MOST_CITIZENS = 10;
    private static final int MOST_HABIT = 6;
    private static final int MOST_TEXTS = 12;
    private static final int MOST_LINES = 14;
    private static final int MOST_DEPTH = 6;
    private static final int MOST_LOG = 60;
    private static final int MOST_UNDONE = 10;
    private static final int MOST_AHEAD = 60;
    private static final int MOST_TRIAL = 40;
    private static final int MOST_ROUNDS = 30;
    private static final int MOST_DAYS = 50;
    private static final int SPAN_SEEDS = 6;

    private final Tape tape;
    private final Text text;
    private final Law law;
    private final Law newLaw;
    private final World world;
    private final World tryout;
    private final LawReader lawReader;
    private final RepublicReader republicReader;
    private final Memory memory;
    private final Reading reading;
    private final Outlook outlook;
    private final Inquiry inquiry;
    private final Law imageLaw;
    private final World imageWorld;
    private boolean imaged;
    private int faultAt;

    public EarCode() {
        tape = new Tape();
        text = new Text();
        law = new Law();
        newLaw = new Law();
        world = new World();
        tryout = new World();
        lawReader = new LawReader(text, newLaw);
        republicReader = new RepublicReader(text, law, tryout);
        memory = new Memory();
        reading = new Reading(law, world);
        outlook = new Outlook(law, world);
        inquiry = new Inquiry(law, world);
        imageLaw = new Law();
        imageWorld = new World();
        imaged = false;
        faultAt = NONE;
    }

    public int feed(int a, int b, int c, int d, int e) {
        if (tape.size + FED_BYTES > MOST_BYTES) {
            return NONE;
        }
        tape.add(a);
        tape.add(b);
        tape.add(c);
        tape.add(d);
        tape.add(e);
        return tape.size;
    }

    public boolean end(int n) {
        if (n < 0 || n > tape.size) {
            return false;
        }
        tape.size = n;
        return true;
    }

    public int code() throws IllegalArgumentException, IllegalStateException {
        text.split(tape);
        tape.size = 0;
        faultAt = lawReader.readAll();
        if (faultAt != NONE) {
            throw new IllegalArgumentException("the text is wrong");
        }
        if (law.told || world.citizens > 0) {
            throw new IllegalStateException("a code was told, or there is a citizen");
        }
        law.become(newLaw);
        memory.forget();
        return law.clauses;
    }

    public int republic() throws IllegalArgumentException, UnsupportedOperationException {
        text.split(tape);
        tape.size = 0;
        tryout.become(world);
        faultAt = republicReader.readAll();
        if (faultAt != NONE) {
            throw new IllegalArgumentException("the text is wrong");
        }
        if (world.texts >= MOST_TEXTS) {
            throw new UnsupportedOperationException("there are 12 texts");
        }
        world.become(tryout);
        world.texts++;
        memory.forget();
        return world.texts;
    }

    public int fault() {
        return faultAt;
    }

    public int clause(int clause, int what) throws IndexOutOfBoundsException, NoSuchElementException {
        needClause(clause);
        switch (what) {
            case 0:
                return bit(law.always, clause);
            case 1:
                return law.deeds[clause];
            case 2:
                return bit(world.inForce(), clause);
            case 3:
                return world.knowersOf(clause);
            case 4:
                return inquiry.contradicting(clause);
            default:
                throw new NoSuchElementException("no such what");
        }
    }

    public int citizen(int citizen, int what) throws IndexOutOfBoundsException, NoSuchElementException {
        needCitizen(citizen);
        switch (what) {
            case 0:
                return bit(world.living, citizen);
            case 1:
                return world.knows[citizen];
            case 2:
                return world.fear[citizen];
            case 3:
                return world.taken[citizen];
            case 4:
                return world.spouse[citizen];
            case 5:
                return world.habitSize[citizen];
            case 6:
                return world.matterAhead(citizen, 0);
            case 7:
                return world.pooledBy(citizen);
            case 8:
                return Long.bitCount(world.seen[citizen]);
            default:
                throw new NoSuchElementException("no such what");
        }
    }

    public long seen(int citizen) throws IndexOutOfBoundsException {
        needCitizen(citizen);
        return world.seen[citizen];
    }

    public int habit(int citizen, int k) throws IndexOutOfBoundsException {
        needCitizen(citizen);
        return k < 0 || k >= world.habitSize[citizen] ? NONE : world.matterAt(citizen, k);
    }

    public int matter(int matter, int citizen, int what)
            throws IndexOutOfBoundsException, IllegalStateException, NoSuchElementException {
        needIndex(matter, MATTERS);
        needCitizen(citizen);
        needAlive(citizen);
        switch (what) {
            case 0:
                return inquiry.forbiddenTo(citizen, matter);
            case 1:
                return inquiry.demandedOf(citizen, matter);
            case 2:
                return inquiry.allows(citizen, matter) ? 1 : 0;
            case 3:
                return inquiry.allows(citizen, matter) && !world.hasSeen(citizen, matter) ? 1 : 0;
            default:
                throw new NoSuchElementException("no such what");
        }
    }

    public int tell(int citizen, int clause) throws IndexOutOfBoundsException, IllegalStateException {
        needCitizen(citizen);
        needClause(clause);
        needAlive(citizen);
        if (bit(world.knows[citizen], clause) == 1) {
            throw new IllegalStateException("known already");
        }
        memory.remember(world);
        world.knows[citizen] |= 1 << clause;
        return world.knownBy(citizen);
    }

    public int die(int citizen) throws IndexOutOfBoundsException, IllegalStateException {
        needCitizen(citizen);
        needAlive(citizen);
        memory.remember(world);
        int before = world.inForce();
        world.bury(citizen);
        return before & ~world.inForce();
    }

    public int wed(int citizen, int other)
            throws IndexOutOfBoundsException, IllegalArgumentException, IllegalStateException {
        needCitizen(citizen);
        needCitizen(other);
        needTwo(citizen, other);
        needAlive(citizen);
        needAlive(other);
        if (world.spouse[citizen] != NONE || world.spouse[other] != NONE) {
            throw new IllegalStateException("one has a spouse");
        }
        memory.remember(world);
        world.marry(citizen, other);
        return world.knows[citizen];
    }

    public int baby(int citizen)
            throws IndexOutOfBoundsException, IllegalStateException, UnsupportedOperationException {
        needCitizen(citizen);
        needAlive(citizen);
        if (world.citizens >= MOST_CITIZENS) {
            throw new UnsupportedOperationException("there are 10 citizens");
        }
        memory.remember(world);
        return world.bear(citizen);
    }

    public int release(int citizen) throws IndexOutOfBoundsException, IllegalStateException {
        needCitizen(citizen);
        needAlive(citizen);
        int left = world.taken[citizen];
        if (left == 0) {
            throw new IllegalStateException("one is free");
        }
        memory.remember(world);
        world.taken[citizen] = 0;
        return left;
    }

    public int days(int n) throws IllegalArgumentException {
        needNumber(n, 1, MOST_DAYS);
        memory.remember(world);
        int before = world.arrests;
        for (int i = 0; i < n; i++) {
            world.passDay(law);
        }
        return world.arrests - before;
    }

    public int nobody() {
        return inquiry.forbiddenToAll();
    }

    public int relief() {
        return inquiry.fewestToDie();
    }

    public int read(int what) throws IllegalArgumentException, NoSuchElementException {
        boolean fine = reading.takeRows(tape);
        tape.size = 0;
        if (!fine) {
            throw new IllegalArgumentException("the tape is not that");
        }
        if (what < 0 || what > 2) {
            throw new NoSuchElementException("no such what");
        }
        reading.findCodes();
        return what == 0 ? reading.codes : what == 1 ? reading.sure : reading.possible;
    }

    public int next(int citizen)
            throws IndexOutOfBoundsException, IllegalArgumentException, IllegalStateException {
        boolean fine = reading.takeRows(tape);
        tape.size = 0;
        needCitizen(citizen);
        if (!fine) {
            throw new IllegalArgumentException("the tape is not that");
        }
        needAlive(citizen);
        reading.findCodes();
        return reading.codes < 2 ? NONE : reading.bestSplit(citizen);
    }

    public int cover() {
        return inquiry.fewestKnowers();
    }

    public int dies(int citizen) throws IndexOutOfBoundsException, IllegalStateException {
        needCitizen(citizen);
        needAlive(citizen);
        return inquiry.knownByOnly(citizen);
    }

    public int heirs(int k) throws IllegalArgumentException {
        needNumber(k, 1, MOST_CITIZENS);
        return inquiry.tellingsFor(k);
    }

    public int risk(int citizen, int n)
            throws IndexOutOfBoundsException, IllegalArgumentException, IllegalStateException {
        needCitizen(citizen);
        needNumber(n, 1, MOST_AHEAD);
        needAlive(citizen);
        return outlook.riskFrom(citizen, 0, n);
    }

    public int safe(int citizen, int deed) throws IndexOutOfBoundsException, IllegalStateException {
        needCitizen(citizen);
        needIndex(deed, DEEDS);
        needAlive(citizen);
        return inquiry.firstFreePlace(citizen, deed);
    }

    public int better(int citizen, int n)
            throws IndexOutOfBoundsException, IllegalArgumentException, IllegalStateException {
        needCitizen(citizen);
        needNumber(n, 1, MOST_AHEAD);
        needAlive(citizen);
        return outlook.bestStart(citizen, n);
    }

    public int telling(int n, boolean less) throws IllegalArgumentException {
        needNumber(n, 1, MOST_AHEAD);
        outlook.findTelling(n);
        return less ? outlook.bestLess : outlook.bestPair;
    }

    public int deduced(int citizen) throws IndexOutOfBoundsException, IllegalStateException {
        needCitizen(citizen);
        needAlive(citizen);
        return inquiry.deducedBy(citizen);
    }

    public int hush(int deed) throws IndexOutOfBoundsException {
        needIndex(deed, DEEDS);
        return inquiry.hushedPlaces(deed);
    }

    public int usual(int place) throws IndexOutOfBoundsException {
        needIndex(place, PLACES);
        return inquiry.usualDeed(place);
    }

    public long feared(boolean all) {
        return world.living == 0 ? 0 : all ? world.seenByAll() : ~world.seenByAny();
    }

    public int custom(int n) throws IllegalArgumentException {
        needNumber(n, 0, MOST_ROUNDS);
        tryout.become(world);
        boolean more = true;
        for (int round = 0; round < n && more; round++) {
            more = tryout.spreadFear();
        }
        return tryout.seenInSum();
    }

    public int settles() {
        tryout.become(world);
        for (int round = 0; round <= MOST_ROUNDS; round++) {
            if (!tryout.spreadFear()) {
                return round;
            }
        }
        return NONE;
    }

    public int provoked(int citizen, boolean second) throws IndexOutOfBoundsException, IllegalStateException {
        needCitizen(citizen);
        needAlive(citizen);
        int best = inquiry.mostWorth(citizen, NONE);
        if (!second) {
            return inquiry.worthOf(citizen, best);
        }
        int other = inquiry.mostWorth(citizen, best);
        return other == NONE ? 0 : inquiry.worthOf(citizen, other);
    }

    public int crowd(int place, int days) throws IndexOutOfBoundsException, IllegalArgumentException {
        needIndex(place, PLACES);
        needNumber(days, 0, MOST_AHEAD);
        return inquiry.crowdAt(place, days);
    }

    public int witnesses(int citizen, int other, int n)
            throws IndexOutOfBoundsException, IllegalArgumentException {
        needCitizen(citizen);
        needCitizen(other);
        needTwo(citizen, other);
        needNumber(n, 1, MOST_AHEAD);
        return inquiry.meetings(citizen, other, n);
    }

    public int trial(int n, int what) throws IllegalArgumentException, NoSuchElementException {
        needNumber(n, 0, MOST_TRIAL);
        if (what < 0 || what > 3) {
            throw new NoSuchElementException("no such what");
        }
        tryDays(n, world.seed);
        switch (what) {
            case 0:
                return tryout.arrests - world.arrests;
            case 1:
                return tryout.harmDone - world.harmDone;
            case 2:
                return tryout.takenOnes();
            default:
                return tryout.seenInSum();
        }
    }

    public int span(int n, boolean most) throws IllegalArgumentException {
        needNumber(n, 0, MOST_TRIAL);
        int best = NONE;
        for (int start = 1; start <= SPAN_SEEDS; start++) {
            tryDays(n, start);
            int got = tryout.arrests - world.arrests;
            if (best == NONE || (most ? got > best : got < best)) {
                best = got;
            }
        }
        return best;
    }

    public int first() {
        tryout.become(world);
        for (int n = 1; n <= MOST_TRIAL; n++) {
            tryout.passDay(law);
            if (tryout.arrests != world.arrests) {
                return n;
            }
        }
        return NONE;
    }

    public int led(int citizen) throws IndexOutOfBoundsException {
        if (citizen != NONE) {
            needCitizen(citizen);
        }
        return world.log.clausesOf(citizen);
    }

    public int worst() {
        return world.log.mostFrequentClause();
    }

    public int log(int ago, int what) throws NoSuchElementException {
        if (what < 0 || what >= Log.WIDTH) {
            throw new NoSuchElementException("no such what");
        }
        return world.log.entry(ago, what);
    }

    public int seed(int n) {
        int before = world.seed;
        world.seed = n;
        return before;
    }

    public boolean undo() {
        return memory.takeBack(world);
    }

    public void image() {
        imageLaw.become(law);
        imageWorld.become(world);
        imaged = true;
    }

    public boolean back() {
        if (!imaged) {
            return false;
        }
        law.become(imageLaw);
        world.become(imageWorld);
        memory.forget();
        return true;
    }

    public int count(int what) {
        switch (what) {
            case 0:
                return law.told ? law.clauses : NONE;
            case 1:
                return world.citizens;
            case 2:
                return Integer.bitCount(world.living);
            case 3:
                return world.texts;
            case 4:
                return world.day;
            case 5:
                return world.inForce();
            case 6:
                return world.takenOnes();
            case 7:
                return world.arrests;
            case 8:
                return world.harmDone;
            case 9:
                return world.kept;
            case 10:
                return world.log.size;
            case 11:
                return world.watch;
            case 12:
                return world.term;
            case 13:
                return memory.size;
            default:
                return NONE;
        }
    }

    private void tryDays(int n, int start) {
        tryout.become(world);
        tryout.seed = start;
        for (int i = 0; i < n; i++) {
            tryout.passDay(law);
        }
    }

    private void needCitizen(int citizen) {
        needIndex(citizen, world.citizens);
    }

    private void needClause(int clause) {
        needIndex(clause, law.clauses);
    }

    private static void needIndex(int index, int size) {
        if (index < 0 || index >= size) {
            throw new IndexOutOfBoundsException("there is no such one");
        }
    }

    private void needAlive(int citizen) {
        if (!world.isAlive(citizen)) {
            throw new IllegalStateException("one is dead");
        }
    }

    private static void needNumber(int n, int low, int high) {
        if (n < low || n > high) {
            throw new IllegalArgumentException("the number is none");
        }
    }

    private static void needTwo(int citizen, int other) {
        if (citizen == other) {
            throw new IllegalArgumentException("both are one");
        }
    }

    private static int bit(int bits, int index) {
        return bits >> index & 1;
    }

    /** The bytes that were fed and not used up yet. */
    private static final class Tape {
        final int[] bytes = new int[MOST_BYTES];
        int size;

        void add(int four) {
            if (size + 4 > bytes.length) {
                return;
            }
            for (int shift = 24; shift >= 0; shift -= 8) {
                bytes[size] = four >>> shift & 255;
                size++;
            }
        }

        boolean isLetter(int at) {
            return at >= 0 && at < size && bytes[at] >= 'a' && bytes[at] <= 'z';
        }

        boolean isDigit(int at) {
            return at >= 0 && at < size && bytes[at] >= '0' && bytes[at] <= '9';
        }
    }

    /** A text split into its things (words, numbers, signs), and how far it has been read. */
    private static final class Text {
        // In the order of their numbers, a blank behind each.
        static final String WORDS =
                "never always if or and not feast place day who known citizen fear does knows watch term harm wed seen ";
        static final int NEVER = 0;
        static final int ALWAYS = 1;
        static final int IF = 2;
        static final int OR = 3;
        static final int AND = 4;
        static final int NOT = 5;
        static final int FEAST = 6;
        static final int PLACE = 7;
        static final int DAY = 8;
        static final int WHO = 9;
        static final int KNOWN = 10;
        static final int CITIZEN = 11;
        static final int FEAR = 12;
        static final int DOES = 13;
        static final int KNOWS = 14;
        static final int WATCH = 15;
        static final int TERM = 16;
        static final int HARM = 17;
        static final int WED = 18;
        static final int SEEN = 19;
        static final int NUMBER = 20;
        static final int END = 21;
        static final int WRONG = 22;
        static final int MOST_DIGITS = 3;
        static final int MOST_VALUE = 999;

        // A sign is its own kind: all signs that mean something are above WRONG.
        final int[] kinds = new int[MOST_BYTES + 1];
        final int[] begins = new int[MOST_BYTES + 1];
        final int[] sizes = new int[MOST_BYTES + 1];
        final int[] values = new int[MOST_BYTES + 1];
        int things;
        int at;

        void split(Tape tape) {
            things = 0;
            at = 0;
            for (int i = 0; i < tape.size; i++) {
                if (tape.isLetter(i)) {
                    if (!tape.isLetter(i - 1)) {
                        int to = endOfWord(tape, i);
                        put(wordNumber(tape, i, to), i, to, 0);
                    }
                } else if (tape.isDigit(i)) {
                    if (!tape.isDigit(i - 1)) {
                        int to = endOfNumber(tape, i);
                        put(NUMBER, i, to, valueOf(tape, i, to));
                    }
                } else if (tape.bytes[i] != ' ') {
                    put(Math.max(tape.bytes[i], WRONG), i, i + 1, 0);
                }
            }
            put(END, tape.size, tape.size, 0);
        }

        private void put(int kind, int from, int to, int value) {
            if (things >= kinds.length) {
                return;
            }
            kinds[things] = kind;
            begins[things] = from;
            sizes[things] = to - from;
            values[things] = value;
            things++;
        }

        private static int endOfWord(Tape tape, int from) {
            int to = from + 1;
            while (to < tape.size && tape.isLetter(to)) {
                to++;
            }
            return to;
        }

        private static int endOfNumber(Tape tape, int from) {
            int to = from + 1;
            while (to < tape.size && tape.isDigit(to)) {
                to++;
            }
            return to;
        }

        /** Above all bounds, if there are too many digits. */
        private static int valueOf(Tape tape, int from, int to) {
            if (to - from > MOST_DIGITS) {
                return MOST_VALUE + 1;
            }
            int value = 0;
            for (int i = from; i < to; i++) {
                value = value * 10 + tape.bytes[i] - '0';
            }
            return value;
        }

        private static int wordNumber(Tape tape, int from, int to) {
            int number = 0;
            int i = from;
            boolean same = true;
            for (int k = 0; k < WORDS.length(); k++) {
                char sign = WORDS.charAt(k);
                if (sign != ' ') {
                    same = same && i < to && tape.bytes[i] == sign;
                    i++;
                } else if (same && i == to) {
                    return number;
                } else {
                    number++;
                    i = from;
                    same = true;
                }
            }
            return WRONG;
        }

        int kind() {
            return at < things ? kinds[at] : END;
        }

        int value() {
            return at < things ? values[at] : 0;
        }

        int size() {
            return at < things ? sizes[at] : 0;
        }

        int begin() {
            return at < things ? begins[at] : 0;
        }

        void goOn() {
            at++;
        }

        /** The number that stands here, and goes on; NONE, and stays, if it is out of these bounds. */
        int numberWithin(int low, int high) {
            int value = value();
            if (kind() != NUMBER || value < low || value > high) {
                return NONE;
            }
            at++;
            return value;
        }
    }

    /** THE CODE: of each CLAUSE the DEED and steps that tell whether it holds. */
    private static final class Law {
        static final int FEAST = -1;
        static final int NOT = -2;
        static final int AND = -3;
        static final int OR = -4;
        static final int WEEK = 7;
        // Of a comparison: the sum of these, each times its number, is above 0.
        static final int TERMS = 5;
        static final int PLACE_TERM = 1;
        static final int DAY_TERM = 2;
        static final int WHO_TERM = 3;
        static final int KNOWN_TERM = 4;

        boolean told;
        int clauses;
        int always;
        final int[] deeds = new int[MOST_CLAUSES];
        final int[] ends = new int[MOST_CLAUSES];
        // A step is one of those above, or the first of a comparison's terms. Each step
        // stands for two bytes of the text at least, a comparison for three.
        final int[] steps = new int[MOST_BYTES / 2];
        int stepsSize;
        final int[] terms = new int[MOST_BYTES / 3 * TERMS];
        int termsSize;

        void become(Law other) {
            told = other.told;
            clauses = other.clauses;
            always = other.always;
            stepsSize = other.stepsSize;
            termsSize = other.termsSize;
            System.arraycopy(other.deeds, 0, deeds, 0, deeds.length);
            System.arraycopy(other.ends, 0, ends, 0, ends.length);
            System.arraycopy(other.steps, 0, steps, 0, steps.length);
            System.arraycopy(other.terms, 0, terms, 0, terms.length);
        }

        void clear() {
            told = false;
            clauses = 0;
            always = 0;
            stepsSize = 0;
            termsSize = 0;
        }

        void addStep(int step) {
            if (stepsSize < steps.length) {
                steps[stepsSize] = step;
                stepsSize++;
            }
        }

        /** Room for a comparison's terms, all 0: the first of them; NONE without room. */
        int addTerms() {
            int from = termsSize;
            if (from + TERMS > terms.length) {
                return NONE;
            }
            for (int i = 0; i < TERMS; i++) {
                terms[from + i] = 0;
            }
            termsSize += TERMS;
            return from;
        }

        void addClause(boolean demands, int deed) {
            if (clauses < MOST_CLAUSES) {
                deeds[clauses] = deed;
                ends[clauses] = stepsSize;
                always |= demands ? 1 << clauses : 0;
                clauses++;
            }
        }

        int never() {
            return ~always & (1 << clauses) - 1;
        }

        /** CLAUSES that DEMAND this MATTER of this CITIZEN, or those that FORBID it, as bits. */
        int bearing(boolean demands, int matter, int who, int known, int day) {
            int bits = 0;
            int deed = matter / PLACES;
            int kind = demands ? 1 : 0;
            for (int clause = 0; clause < clauses; clause++) {
                if (deeds[clause] == deed && bit(always, clause) == kind
                        && holds(clause, matter % PLACES, who, known, day)) {
                    bits |= 1 << clause;
                }
            }
            return bits;
        }

        private boolean holds(int clause, int place, int who, int known, int day) {
            int from = clause == 0 ? 0 : ends[clause - 1];
            // A stack of truths, the latest as the lowest bit: at most two for each of 7 depths.
            // The first is that of a CLAUSE without an if.
            int truths = 1;
            for (int i = from; i < ends[clause]; i++) {
                int step = steps[i];
                int latest = truths & 1;
                if (step == FEAST) {
                    truths = truths << 1 | (day % WEEK == 0 ? 1 : 0);
                } else if (step == NOT) {
                    truths ^= 1;
                } else if (step == AND) {
                    truths = truths >> 1 & (latest | ~1);
                } else if (step == OR) {
                    truths = truths >> 1 | latest;
                } else if (step >= 0 && step + TERMS <= terms.length) {
                    int sum = terms[step] + terms[step + PLACE_TERM] * place + terms[step + DAY_TERM] * day
                            + terms[step + WHO_TERM] * who + terms[step + KNOWN_TERM] * known;
                    truths = truths << 1 | (sum > 0 ? 1 : 0);
                }
            }
            return (truths & 1) == 1;
        }
    }

    /** Reads THE CODE from a text: each part answers whether it can stand where it does. */
    private static final class LawReader {
        private final Text text;
        private final Law law;

        LawReader(Text text, Law law) {
            this.text = text;
            this.law = law;
        }

        /** The first wrong byte; NONE. */
        int readAll() {
            law.clear();
            law.told = true;
            if (text.kind() == Text.END) {
                return NONE;
            }
            for (int i = 0; i < MOST_CLAUSES; i++) {
                if (!readClause()) {
                    return text.begin();
                }
                if (text.kind() == Text.END) {
                    return NONE;
                }
                if (text.kind() != ';') {
                    return text.begin();
                }
                text.goOn();
            }
            return text.begin();
        }

        private boolean readClause() {
            boolean demands = text.kind() == Text.ALWAYS;
            if (!demands && text.kind() != Text.NEVER) {
                return false;
            }
            text.goOn();
            int deed = text.numberWithin(0, DEEDS - 1);
            if (deed == NONE) {
                return false;
            }
            if (text.kind() == Text.IF) {
                text.goOn();
                if (!readCondition(0)) {
                    return false;
                }
            }
            law.addClause(demands, deed);
            return true;
        }

        /** An and binds more than an or: it is put as soon as its right side stands. */
        private boolean readCondition(int depth) {
            boolean openAnd = false;
            boolean openOr = false;
            for (int i = 0; i < MOST_BYTES; i++) {
                if (!readAtom(depth)) {
                    return false;
                }
                if (openAnd) {
                    law.addStep(Law.AND);
                }
                openAnd = text.kind() == Text.AND;
                if (!openAnd) {
                    if (openOr) {
                        law.addStep(Law.OR);
                    }
                    openOr = text.kind() == Text.OR;
                    if (!openOr) {
                        return true;
                    }
                }
                text.goOn();
            }
            return false;
        }

        private boolean readAtom(int depth) {
            int kind = text.kind();
            if (kind == Text.FEAST) {
                text.goOn();
                law.addStep(Law.FEAST);
                return true;
            }
            if (kind != Text.NOT && kind != '(') {
                return readComparison();
            }
            if (depth >= MOST_DEPTH) {
                return false;
            }
            text.goOn();
            if (kind == Text.NOT) {
                if (!readAtom(depth + 1)) {
                    return false;
                }
                law.addStep(Law.NOT);
                return true;
            }
            if (!readCondition(depth + 1) || text.kind() != ')') {
                return false;
            }
            text.goOn();
            return true;
        }

        private boolean readComparison() {
            int from = law.addTerms();
            if (from == NONE || !readSum(from, 1)) {
                return false;
            }
            int sign = text.kind();
            if (sign != '<' && sign != '>') {
                return false;
            }
            text.goOn();
            if (sign == '<') {
                for (int i = 0; i < Law.TERMS; i++) {
                    law.terms[from + i] = -law.terms[from + i];
                }
            }
            if (!readSum(from, sign == '<' ? 1 : -1)) {
                return false;
            }
            law.addStep(from);
            return true;
        }

        private boolean readSum(int from, int times) {
            for (int i = 0; i < MOST_BYTES; i++) {
                int kind = text.kind();
                if (kind == Text.NUMBER && text.value() <= Text.MOST_VALUE) {
                    law.terms[from] += times * text.value();
                } else if (kind == Text.PLACE) {
                    law.terms[from + Law.PLACE_TERM] += times;
                } else if (kind == Text.DAY) {
                    law.terms[from + Law.DAY_TERM] += times;
                } else if (kind == Text.WHO) {
                    law.terms[from + Law.WHO_TERM] += times;
                } else if (kind == Text.KNOWN) {
                    law.terms[from + Law.KNOWN_TERM] += times;
                } else {
                    return false;
                }
                text.goOn();
                if (text.kind() != '+') {
                    return true;
                }
                text.goOn();
            }
            return false;
        }
    }

    /** Reads a text of THE REPUBLIC into a world that is thrown away if the text is wrong. */
    private static final class RepublicReader {
        private final Text text;
        private final Law law;
        private final World world;

        RepublicReader(Text text, Law law, World world) {
            this.text = text;
            this.law = law;
            this.world = world;
        }

        /** The first wrong byte; NONE. */
        int readAll() {
            if (text.kind() == Text.END) {
                return NONE;
            }
            for (int i = 0; i < MOST_LINES; i++) {
                if (!readLine()) {
                    return text.begin();
                }
                if (text.kind() == Text.END) {
                    return NONE;
                }
                if (text.kind() != ';') {
                    return text.begin();
                }
                text.goOn();
            }
            return text.begin();
        }

        private boolean readLine() {
            int kind = text.kind();
            if (kind == Text.CITIZEN && world.citizens >= MOST_CITIZENS) {
                return false;
            }
            if (kind < Text.CITIZEN || kind > Text.SEEN || kind == Text.FEAR || kind == Text.DOES
                    || kind == Text.KNOWS) {
                return false;
            }
            text.goOn();
            switch (kind) {
                case Text.CITIZEN:
                    return readCitizen();
                case Text.WATCH:
                    return readWatch();
                case Text.TERM:
                    return readTerm();
                case Text.HARM:
                    return readHarm();
                case Text.WED:
                    return readWed();
                default:
                    return readSeen();
            }
        }

        private boolean readCitizen() {
            if (text.kind() != Text.FEAR) {
                return false;
            }
            text.goOn();
            int fear = text.numberWithin(0, 100);
            if (fear == NONE || text.kind() != Text.DOES) {
                return false;
            }
            text.goOn();
            int citizen = world.addCitizen(fear);
            if (citizen == NONE || !readHabit(citizen)) {
                return false;
            }
            return text.kind() != Text.KNOWS || readKnows(citizen);
        }

        private boolean readHabit(int citizen) {
            for (int i = 0; i < MOST_HABIT; i++) {
                int matter = readMatter();
                if (matter == NONE) {
                    return false;
                }
                world.addToHabit(citizen, matter);
                if (text.kind() != Text.NUMBER) {
                    return true;
                }
            }
            return false;
        }

        private boolean readKnows(int citizen) {
            text.goOn();
            for (int i = 0; i < MOST_BYTES; i++) {
                int clause = text.numberWithin(0, law.clauses - 1);
                if (clause == NONE) {
                    return false;
                }
                world.knows[citizen] |= 1 << clause;
                if (text.kind() != Text.NUMBER) {
                    return true;
                }
            }
            return false;
        }

        private boolean readWatch() {
            int watch = text.numberWithin(0, 100);
            world.watch = watch;
            return watch != NONE;
        }

        private boolean readTerm() {
            int term = text.numberWithin(1, 30);
            world.term = term;
            return term != NONE;
        }

        private boolean readHarm() {
            int deed = text.numberWithin(0, DEEDS - 1);
            if (deed == NONE) {
                return false;
            }
            int harm = text.numberWithin(0, 99);
            world.harm[deed] = harm;
            return harm != NONE;
        }

        private boolean readWed() {
            int citizen = readLiving(true, NONE);
            if (citizen == NONE) {
                return false;
            }
            int other = readLiving(true, citizen);
            if (other == NONE) {
                return false;
            }
            world.marry(citizen, other);
            return true;
        }

        private boolean readSeen() {
            int citizen = readLiving(false, NONE);
            if (citizen == NONE) {
                return false;
            }
            int matter = readMatter();
            if (matter == NONE) {
                return false;
            }
            world.seen[citizen] |= 1L << matter;
            return true;
        }

        private int readLiving(boolean single, int butNot) {
            int citizen = text.value();
            if (text.kind() != Text.NUMBER || citizen >= world.citizens || citizen == butNot
                    || !world.isAlive(citizen) || single && world.spouse[citizen] != NONE) {
                return NONE;
            }
            text.goOn();
            return citizen;
        }

        private int readMatter() {
            int deed = text.value() / 10;
            int place = text.value() % 10;
            if (text.kind() != Text.NUMBER || text.size() != 2 || deed >= DEEDS || place >= PLACES) {
                return NONE;
            }
            text.goOn();
            return deed * PLACES + place;
        }
    }

    /** All that ACTS change, and what texts of THE REPUBLIC tell. */
    private static final class World {
        int citizens;
        int living;
        final int[] knows = new int[MOST_CITIZENS];
        final int[] fear = new int[MOST_CITIZENS];
        final int[] taken = new int[MOST_CITIZENS];
        final int[] spouse = new int[MOST_CITIZENS];
        final int[] habits = new int[MOST_CITIZENS * MOST_HABIT];
        final int[] habitSize = new int[MOST_CITIZENS];
        final int[] habitNext = new int[MOST_CITIZENS];
        final long[] seen = new long[MOST_CITIZENS];
        final int[] harm = {1, 1, 1, 1, 1, 1, 1, 1};
        int watch = 100;
        int term = 3;
        int day;
        int seed = 1;
        int texts;
        int arrests;
        int harmDone;
        int kept;
        final Log log = new Log();

        void become(World other) {
            citizens = other.citizens;
            living = other.living;
            System.arraycopy(other.knows, 0, knows, 0, knows.length);
            System.arraycopy(other.fear, 0, fear, 0, fear.length);
            System.arraycopy(other.taken, 0, taken, 0, taken.length);
            System.arraycopy(other.spouse, 0, spouse, 0, spouse.length);
            System.arraycopy(other.habits, 0, habits, 0, habits.length);
            System.arraycopy(other.habitSize, 0, habitSize, 0, habitSize.length);
            System.arraycopy(other.habitNext, 0, habitNext, 0, habitNext.length);
            System.arraycopy(other.seen, 0, seen, 0, seen.length);
            System.arraycopy(other.harm, 0, harm, 0, harm.length);
            watch = other.watch;
            term = other.term;
            day = other.day;
            seed = other.seed;
            texts = other.texts;
            arrests = other.arrests;
            harmDone = other.harmDone;
            kept = other.kept;
            log.become(other.log);
        }

        /** A CITIZEN more, without a HABIT yet: the number; NONE without room. */
        int addCitizen(int fearOfOne) {
            int citizen = citizens;
            if (citizen >= MOST_CITIZENS) {
                return NONE;
            }
            citizens++;
            living |= 1 << citizen;
            knows[citizen] = 0;
            fear[citizen] = fearOfOne;
            taken[citizen] = 0;
            spouse[citizen] = NONE;
            habitSize[citizen] = 0;
            habitNext[citizen] = 0;
            seen[citizen] = 0;
            return citizen;
        }

        void addToHabit(int citizen, int matter) {
            int size = habitSize[citizen];
            if (size < MOST_HABIT) {
                habits[citizen * MOST_HABIT + size] = matter;
                habitSize[citizen]++;
            }
        }

        int bear(int parent) {
            int child = addCitizen(fear[parent]);
            if (child != NONE) {
                for (int k = 0; k < habitSize[parent]; k++) {
                    addToHabit(child, matterAt(parent, k));
                }
            }
            return child;
        }

        void bury(int citizen) {
            living &= ~(1 << citizen);
            taken[citizen] = 0;
            int widowed = spouse[citizen];
            if (isThere(widowed)) {
                spouse[widowed] = NONE;
            }
            spouse[citizen] = NONE;
        }

        void marry(int citizen, int other) {
            spouse[citizen] = other;
            spouse[other] = citizen;
            knows[citizen] |= knows[other];
            knows[other] = knows[citizen];
        }

        /** Also of a SPOUSE, who may be NONE. */
        boolean isThere(int citizen) {
            return citizen >= 0 && citizen < citizens;
        }

        boolean isAlive(int citizen) {
            return bit(living, citizen) == 1;
        }

        boolean hasSeen(int citizen, int matter) {
            return (seen[citizen] >>> matter & 1L) == 1L;
        }

        int matterAt(int citizen, int k) {
            return habits[citizen * MOST_HABIT + k];
        }

        /** The MATTER of the HABIT so many DAYS from now on. */
        int matterAhead(int citizen, int ahead) {
            int size = habitSize[citizen];
            return size < 1 ? 0 : matterAt(citizen, (habitNext[citizen] + ahead) % size);
        }

        int placeAhead(int citizen, int ahead) {
            return matterAhead(citizen, ahead) % PLACES;
        }

        int knownBy(int citizen) {
            return Integer.bitCount(knows[citizen]);
        }

        int pooledBy(int citizen) {
            int other = spouse[citizen];
            return isThere(other) ? knows[citizen] | knows[other] : knows[citizen];
        }

        int inForce() {
            int bits = 0;
            for (int citizen = 0; citizen < citizens; citizen++) {
                if (isAlive(citizen)) {
                    bits |= knows[citizen];
                }
            }
            return bits;
        }

        int knowersOf(int clause) {
            int bits = 0;
            for (int citizen = 0; citizen < citizens; citizen++) {
                if (isAlive(citizen) && bit(knows[citizen], clause) == 1) {
                    bits |= 1 << citizen;
                }
            }
            return bits;
        }

        int takenOnes() {
            int bits = 0;
            for (int citizen = 0; citizen < citizens; citizen++) {
                if (taken[citizen] > 0) {
                    bits |= 1 << citizen;
                }
            }
            return bits;
        }

        void passDay(Law law) {
            int free = living & ~takenOnes();
            int doers = pickDoers(law, free);
            int force = inForce();
            for (int citizen = 0; citizen < citizens; citizen++) {
                if (bit(doers, citizen) == 1) {
                    judge(law, citizen, free, force);
                }
            }
            for (int citizen = 0; citizen < citizens; citizen++) {
                if (bit(free, citizen) == 0 && taken[citizen] > 0) {
                    taken[citizen]--;
                }
                habitNext[citizen]++;
                if (habitNext[citizen] >= habitSize[citizen]) {
                    habitNext[citizen] = 0;
                }
            }
            day++;
        }

        private int pickDoers(Law law, int free) {
            int doers = 0;
            for (int citizen = 0; citizen < citizens; citizen++) {
                if (bit(free, citizen) == 1) {
                    if (keepsFrom(law, citizen)) {
                        kept++;
                    } else {
                        doers |= 1 << citizen;
                    }
                }
            }
            return doers;
        }

        private boolean keepsFrom(Law law, int citizen) {
            int matter = matterAhead(citizen, 0);
            int forbidding = law.bearing(false, matter, citizen, knownBy(citizen), day);
            if ((forbidding & knows[citizen]) != 0) {
                return true;
            }
            return hasSeen(citizen, matter) && draw() % 100 < fear[citizen];
        }

        private void judge(Law law, int citizen, int free, int force) {
            int matter = matterAhead(citizen, 0);
            int broken = force & law.bearing(false, matter, citizen, knownBy(citizen), day);
            if (broken == 0) {
                return;
            }
            harmDone += harm[matter / PLACES];
            if (draw() % 100 >= watch) {
                return;
            }
            taken[citizen] = term;
            arrests++;
            log.add(day, citizen, matter, lowest(broken));
            for (int other = 0; other < citizens; other++) {
                if (bit(free, other) == 1 && placeAhead(other, 0) == matter % PLACES) {
                    seen[other] |= 1L << matter;
                }
            }
        }

        private static int lowest(int clauses) {
            for (int clause = 0; clause < MOST_CLAUSES; clause++) {
                if (bit(clauses, clause) == 1) {
                    return clause;
                }
            }
            return NONE;
        }

        private int draw() {
            seed = 1103515245 * seed + 12345;
            return seed >>> 16 & 0x7fff;
        }

        /** A ROUND of CUSTOM: whether somebody has SEEN more by it. */
        boolean spreadFear() {
            boolean more = false;
            int others = Integer.bitCount(living) - 1;
            for (int matter = 0; matter < MATTERS; matter++) {
                // Who has not SEEN it has all who have among the others.
                if (seersOf(matter) * 2 > others && letAllSee(matter)) {
                    more = true;
                }
            }
            return more;
        }

        private int seersOf(int matter) {
            int sum = 0;
            for (int citizen = 0; citizen < citizens; citizen++) {
                if (isAlive(citizen) && hasSeen(citizen, matter)) {
                    sum++;
                }
            }
            return sum;
        }

        private boolean letAllSee(int matter) {
            boolean more = false;
            for (int citizen = 0; citizen < citizens; citizen++) {
                if (isAlive(citizen) && !hasSeen(citizen, matter)) {
                    seen[citizen] |= 1L << matter;
                    more = true;
                }
            }
            return more;
        }

        int seenInSum() {
            int sum = 0;
            for (int citizen = 0; citizen < citizens; citizen++) {
                sum += Long.bitCount(seen[citizen]);
            }
            return sum;
        }

        long seenByAll() {
            long bits = -1L;
            for (int citizen = 0; citizen < citizens; citizen++) {
                if (isAlive(citizen)) {
                    bits &= seen[citizen];
                }
            }
            return bits;
        }

        long seenByAny() {
            long bits = 0L;
            for (int citizen = 0; citizen < citizens; citizen++) {
                if (isAlive(citizen)) {
                    bits |= seen[citizen];
                }
            }
            return bits;
        }
    }

    /** THE LOG, a ring of rows. */
    private static final class Log {
        static final int WIDTH = 4;
        static final int WHO = 1;
        static final int CLAUSE = 3;

        final int[] rows = new int[MOST_LOG * WIDTH];
        int size;
        int end;

        void become(Log other) {
            System.arraycopy(other.rows, 0, rows, 0, rows.length);
            size = other.size;
            end = other.end;
        }

        void add(int day, int who, int matter, int clause) {
            int from = end * WIDTH;
            rows[from] = day;
            rows[from + 1] = who;
            rows[from + 2] = matter;
            rows[from + 3] = clause;
            end = (end + 1) % MOST_LOG;
            size = Math.min(size + 1, MOST_LOG);
        }

        int entry(int ago, int what) {
            if (ago < 0 || ago >= size) {
                return NONE;
            }
            return rows[(end + MOST_LOG - 1 - ago) % MOST_LOG * WIDTH + what];
        }

        /** As bits; citizen NONE: of all. */
        int clausesOf(int citizen) {
            int bits = 0;
            for (int ago = 0; ago < size; ago++) {
                if (citizen == NONE || entry(ago, WHO) == citizen) {
                    bits |= 1 << entry(ago, CLAUSE);
                }
            }
            return bits;
        }

        int mostFrequentClause() {
            int best = NONE;
            int most = 0;
            for (int clause = 0; clause < MOST_CLAUSES; clause++) {
                int rowsOfIt = 0;
                for (int ago = 0; ago < size; ago++) {
                    if (entry(ago, CLAUSE) == clause) {
                        rowsOfIt++;
                    }
                }
                if (rowsOfIt > most) {
                    most = rowsOfIt;
                    best = clause;
                }
            }
            return best;
        }
    }

    /** The worlds ahead of the latest ACTS, a ring. */
    private static final class Memory {
        private final World[] worlds = new World[MOST_UNDONE];
        private int end;
        int size;

        Memory() {
            for (int i = 0; i < MOST_UNDONE; i++) {
                worlds[i] = new World();
            }
        }

        void remember(World world) {
            worlds[end].become(world);
            end = (end + 1) % MOST_UNDONE;
            size = Math.min(size + 1, MOST_UNDONE);
        }

        boolean takeBack(World world) {
            if (size == 0) {
                return false;
            }
            end = (end + MOST_UNDONE - 1) % MOST_UNDONE;
            size--;
            world.become(worlds[end]);
            return true;
        }

        void forget() {
            size = 0;
        }
    }

    /** READ: the CODES by which those who were watched were TAKEN or not. */
    private static final class Reading {
        static final int ROW = 3;

        private final Law law;
        private final World world;
        // Of each row with one TAKEN: the CLAUSES of which one must be.
        private final int[] needs = new int[MOST_BYTES / ROW];
        private int needed;
        private int barred;
        // For each set of CLAUSES 1 if it is one of the CODES; bestSplit sums them.
        private final int[] marks = new int[1 << MOST_CLAUSES];
        int codes;
        int sure;
        int possible;

        Reading(Law law, World world) {
            this.law = law;
            this.world = world;
        }

        /** Whether the tape tells who was watched. */
        boolean takeRows(Tape tape) {
            needed = 0;
            barred = 0;
            for (int from = 0; from < tape.size; from += ROW) {
                if (from + ROW > tape.size
                        || !takeRow(tape.bytes[from], tape.bytes[from + 1], tape.bytes[from + 2])) {
                    return false;
                }
            }
            return true;
        }

        private boolean takeRow(int citizen, int matter, int taken) {
            if (citizen >= world.citizens || !world.isAlive(citizen) || matter >= MATTERS || taken > 1) {
                return false;
            }
            int forbidding = law.bearing(false, matter, citizen, world.knownBy(citizen), world.day);
            if (taken == 0) {
                barred |= forbidding;
            } else {
                addNeed(forbidding);
            }
            return true;
        }

        private void addNeed(int need) {
            for (int i = 0; i < needed; i++) {
                if (needs[i] == need) {
                    return;
                }
            }
            if (needed < needs.length) {
                needs[needed] = need;
                needed++;
            }
        }

        void findCodes() {
            int allowed = law.never() & ~barred;
            int sets = 1 << law.clauses;
            codes = 0;
            sure = -1;
            possible = 0;
            for (int set = 0; set < sets; set++) {
                boolean fits = (set & ~allowed) == 0 && meetsNeeds(set);
                marks[set] = fits ? 1 : 0;
                if (fits) {
                    codes++;
                    sure &= set;
                    possible |= set;
                }
            }
            if (codes == 0) {
                sure = 0;
            }
        }

        private boolean meetsNeeds(int set) {
            for (int i = 0; i < needed; i++) {
                if ((needs[i] & set) == 0) {
                    return false;
                }
            }
            return true;
        }

        int bestSplit(int citizen) {
            sumOverSubsets();
            int all = (1 << law.clauses) - 1;
            int best = NONE;
            int least = 0;
            for (int matter = 0; matter < MATTERS; matter++) {
                int forbidding = law.bearing(false, matter, citizen, world.knownBy(citizen), world.day);
                int allowing = marks[all & ~forbidding];
                int greater = Math.max(allowing, codes - allowing);
                if (best == NONE || greater < least) {
                    best = matter;
                    least = greater;
                }
            }
            return best;
        }

        /** Then each set's mark is how many of the CODES have no CLAUSE beside the set. */
        private void sumOverSubsets() {
            int sets = 1 << law.clauses;
            for (int clause = 1; clause < sets; clause <<= 1) {
                for (int set = 0; set < sets; set++) {
                    if ((set & clause) != 0) {
                        marks[set] += marks[set ^ clause];
                    }
                }
            }
        }
    }

    /** RISK on DAYS to come, and what would make it less. */
    private static final class Outlook {
        private final Law law;
        private final World world;
        private final int[] forbidding = new int[MOST_AHEAD];
        int bestPair;
        int bestLess;

        Outlook(Law law, World world) {
            this.law = law;
            this.world = world;
        }

        /** RISK if the HABIT went on from so many MATTERS later. */
        int riskFrom(int citizen, int later, int n) {
            foresee(citizen, later, world.knownBy(citizen), n);
            return riskyDays(n, world.inForce(), world.knows[citizen]);
        }

        private void foresee(int citizen, int later, int known, int n) {
            for (int ahead = 0; ahead < n && ahead < MOST_AHEAD; ahead++) {
                int matter = world.matterAhead(citizen, later + ahead);
                forbidding[ahead] = law.bearing(false, matter, citizen, known, world.day + ahead);
            }
        }

        private int riskyDays(int n, int force, int knows) {
            int sum = 0;
            for (int ahead = 0; ahead < n && ahead < MOST_AHEAD; ahead++) {
                if ((forbidding[ahead] & force) != 0 && (forbidding[ahead] & knows) == 0) {
                    sum++;
                }
            }
            return sum;
        }

        int bestStart(int citizen, int n) {
            int best = 0;
            int least = riskFrom(citizen, 0, n);
            for (int later = 1; later < world.habitSize[citizen]; later++) {
                int risk = riskFrom(citizen, later, n);
                if (risk < least) {
                    least = risk;
                    best = later;
                }
            }
            return best;
        }

        void findTelling(int n) {
            bestPair = NONE;
            bestLess = 0;
            int force = world.inForce();
            for (int citizen = 0; citizen < world.citizens; citizen++) {
                if (world.isAlive(citizen)) {
                    findTellingOf(citizen, n, force);
                }
            }
        }

        /** Whoever is told, the others' RISK stays: a CLAUSE IN FORCE is so already. */
        private void findTellingOf(int citizen, int n, int force) {
            int knows = world.knows[citizen];
            int risk = riskFrom(citizen, 0, n);
            foresee(citizen, 0, world.knownBy(citizen) + 1, n);
            for (int clause = 0; clause < law.clauses; clause++) {
                if (bit(force & ~knows, clause) == 1) {
                    int less = risk - riskyDays(n, force, knows | 1 << clause);
                    if (bestPair == NONE || less > bestLess) {
                        bestPair = 100 * citizen + clause;
                        bestLess = less;
                    }
                }
            }
        }
    }

    /** What is asked of CLAUSES and CITIZENS as they are now. */
    private static final class Inquiry {
        private final Law law;
        private final World world;
        private final int[] others = new int[MOST_CLAUSES];

        Inquiry(Law law, World world) {
            this.law = law;
            this.world = world;
        }

        private int forbidding(int citizen, int matter) {
            return law.bearing(false, matter, citizen, world.knownBy(citizen), world.day);
        }

        private int demanding(int citizen, int matter) {
            return law.bearing(true, matter, citizen, world.knownBy(citizen), world.day);
        }

        int forbiddenTo(int citizen, int matter) {
            return forbidding(citizen, matter) & world.inForce();
        }

        int demandedOf(int citizen, int matter) {
            return demanding(citizen, matter) & world.inForce();
        }

        boolean allows(int citizen, int matter) {
            return (forbidding(citizen, matter) & world.knows[citizen]) == 0;
        }

        /** DEEDS, as bits. */
        int forbiddenToAll() {
            int bits = 0;
            int force = world.inForce();
            for (int deed = 0; deed < DEEDS && world.living != 0; deed++) {
                if (isForbiddenToAll(deed, force)) {
                    bits |= 1 << deed;
                }
            }
            return bits;
        }

        private boolean isForbiddenToAll(int deed, int force) {
            for (int citizen = 0; citizen < world.citizens; citizen++) {
                for (int place = 0; place < PLACES && world.isAlive(citizen); place++) {
                    if ((forbidding(citizen, deed * PLACES + place) & force) == 0) {
                        return false;
                    }
                }
            }
            return true;
        }

        /** CLAUSES that CONTRADICT this one, as bits. */
        int contradicting(int clause) {
            clearOthers();
            findOthers(law.deeds[clause]);
            return others[clause];
        }

        /** RELIEF, as bits. */
        int fewestToDie() {
            clearOthers();
            for (int deed = 0; deed < DEEDS; deed++) {
                findOthers(deed);
            }
            int best = 0;
            int fewest = MOST_CLAUSES + 1;
            for (int set = 0; set < 1 << law.clauses; set++) {
                int size = Integer.bitCount(set);
                if (size < fewest && isRelief(set)) {
                    fewest = size;
                    best = set;
                }
            }
            return best;
        }

        private boolean isRelief(int set) {
            for (int clause = 0; clause < law.clauses; clause++) {
                if (bit(set, clause) == 0 && (others[clause] & ~set) != 0) {
                    return false;
                }
            }
            return true;
        }

        private void clearOthers() {
            for (int clause = 0; clause < MOST_CLAUSES; clause++) {
                others[clause] = 0;
            }
        }

        private void findOthers(int deed) {
            for (int citizen = 0; citizen < world.citizens; citizen++) {
                for (int place = 0; place < PLACES && world.isAlive(citizen); place++) {
                    int matter = deed * PLACES + place;
                    addOthers(forbidding(citizen, matter), demanding(citizen, matter));
                }
            }
        }

        private void addOthers(int nevers, int always) {
            for (int clause = 0; clause < law.clauses; clause++) {
                if (bit(nevers, clause) == 1) {
                    others[clause] |= always;
                } else if (bit(always, clause) == 1) {
                    others[clause] |= nevers;
                }
            }
        }

        /** COVER, as bits. */
        int fewestKnowers() {
            int force = world.inForce();
            int best = 0;
            int fewest = MOST_CITIZENS + 1;
            for (int set = 0; set < 1 << world.citizens; set++) {
                int size = Integer.bitCount(set);
                if (size < fewest && (set & ~world.living) == 0 && knownTogether(set) == force) {
                    fewest = size;
                    best = set;
                }
            }
            return best;
        }

        private int knownTogether(int set) {
            int bits = 0;
            for (int citizen = 0; citizen < world.citizens; citizen++) {
                if (bit(set, citizen) == 1) {
                    bits |= world.knows[citizen];
                }
            }
            return bits;
        }

        int knownByOnly(int citizen) {
            return world.knows[citizen] & ~knownTogether(world.living & ~(1 << citizen));
        }

        /** HEIRS. */
        int tellingsFor(int k) {
            if (Integer.bitCount(world.living) < k) {
                return NONE;
            }
            int force = world.inForce();
            int sum = 0;
            for (int clause = 0; clause < law.clauses; clause++) {
                if (bit(force, clause) == 1) {
                    sum += Math.max(0, k - Integer.bitCount(world.knowersOf(clause)));
                }
            }
            return sum;
        }

        int firstFreePlace(int citizen, int deed) {
            int force = world.inForce();
            for (int place = 0; place < PLACES; place++) {
                if ((forbidding(citizen, deed * PLACES + place) & force) == 0) {
                    return place;
                }
            }
            return NONE;
        }

        int deducedBy(int citizen) {
            int bits = 0;
            for (int matter = 0; matter < MATTERS; matter++) {
                if (world.hasSeen(citizen, matter)) {
                    bits |= forbidding(citizen, matter);
                }
            }
            return bits & world.inForce() & ~world.knows[citizen];
        }

        int hushedPlaces(int deed) {
            int bits = 0;
            for (int place = 0; place < PLACES && world.living != 0; place++) {
                if (!isAllowedToAny(deed * PLACES + place)) {
                    bits |= 1 << place;
                }
            }
            return bits;
        }

        private boolean isAllowedToAny(int matter) {
            for (int citizen = 0; citizen < world.citizens; citizen++) {
                if (world.isAlive(citizen) && allows(citizen, matter)) {
                    return true;
                }
            }
            return false;
        }

        int usualDeed(int place) {
            int best = NONE;
            int most = 0;
            for (int deed = 0; deed < DEEDS; deed++) {
                int times = timesInHabits(deed * PLACES + place);
                if (times > most) {
                    most = times;
                    best = deed;
                }
            }
            return best;
        }

        private int timesInHabits(int matter) {
            int sum = 0;
            for (int citizen = 0; citizen < world.citizens; citizen++) {
                for (int k = 0; k < world.habitSize[citizen] && world.isAlive(citizen); k++) {
                    if (world.matterAt(citizen, k) == matter) {
                        sum++;
                    }
                }
            }
            return sum;
        }

        /** Which MATTER of the HABIT is worth most, that one left out; NONE. */
        int mostWorth(int citizen, int butNot) {
            int best = NONE;
            for (int k = 0; k < world.habitSize[citizen]; k++) {
                if (k != butNot && (best == NONE || worthOf(citizen, k) > worthOf(citizen, best))) {
                    best = k;
                }
            }
            return best;
        }

        int worthOf(int citizen, int k) {
            if (k < 0 || k >= world.habitSize[citizen]) {
                return 0;
            }
            int matter = world.matterAt(citizen, k);
            int harm = world.harm[matter / PLACES];
            return forbiddenTo(citizen, matter) == 0 ? harm : -harm;
        }

        int crowdAt(int place, int ahead) {
            int bits = 0;
            for (int citizen = 0; citizen < world.citizens; citizen++) {
                if (world.isAlive(citizen) && world.placeAhead(citizen, ahead) == place) {
                    bits |= 1 << citizen;
                }
            }
            return bits;
        }

        int meetings(int citizen, int other, int n) {
            int sum = 0;
            for (int ahead = 0; ahead < n; ahead++) {
                if (world.placeAhead(citizen, ahead) == world.placeAhead(other, ahead)) {
                    sum++;
                }
            }
            return sum;
        }
    }
}
