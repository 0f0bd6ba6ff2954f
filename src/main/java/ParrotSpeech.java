/**
 * A harbour whose birds inherit the speech of its men: birds and men are told in a text, evenings
 * pass, and what will be said, known and kept is foretold.
 */
public final class ParrotSpeech {
    public static final int NONE = -1, UNKNOWN = -2, OUTSIDE = -3, NOT = -4, FULL = -5, NULL = -11, CAST = -12, STORE = -13, INDEX = -14, EMPTY = -15, SIZE = -16;

    private static final int MOST_BIRDS = 8;
    private static final int MOST_MEN = 4;
    private static final int PERCHES = 4;
    private static final int WORDS = 10;
    private static final int BEST = 9;
    private static final int WELL = 5;
    private static final int TAUGHT = 3;

    private static final int PARROT = 0;
    private static final int GREY = 1;
    private static final int COCKATOO = 2;
    private static final int HAWK = 3;
    private static final int GREEN = 4;
    private static final int KINDS = 5;

    // By kind, from PARROT to GREEN.
    private static final int[] HEARS = {1, 1, 1, 0, 2};
    private static final int[] GETS = {3, 5, 3, 0, 0};
    private static final int[] SAYS = {1, 1, 2, 0, 0};
    private static final int[] LOSES = {1, 0, 1, 0, 0};
    private static final int MOST_SAID = 16;

    // By kind, from PARROT to GREEN: bits of the kinds that it is, as they are over one another
    // (BIRD 1, PARROT 2, GREY 4, COCKATOO 8, HAWK 16, GREEN 32).
    private static final int[] IS = {1 | 2, 1 | 2 | 4, 1 | 2 | 8, 1 | 16, 1 | 16 | 32};
    private static final int MOST_OVER = 5;

    private static final int MOST_LETTERS = 200;
    private static final int MOST_LETTER = 255;
    private static final int MOST_CLAUSES = 20;
    private static final int MOST_DEEP = 6;

    private static final int LAST_EVENING = 999;
    private static final int MOST_EVENINGS = 12;
    private static final int FAR = 60;
    private static final int NEAR = 20;

    private static final int MOST_UNDONE = 8;
    private static final int KEPT = 2;
    private static final int MOST_SEEN = 6;
    private static final int LAST_SEEN_PLACE = 9;
    private static final int TEN = 10;
    private static final int MOST_TURNS = 100;

    private static final int REELS = 3;
    private static final int MOST_PLACES = 12;
    private static final int BYTES = 0;
    private static final int SHORTS = 1;
    private static final int INTS = 2;
    private static final int BIRDS = 3;
    private static final int MORE_FOR_SMALL = 100000;
    private static final int MORE_FOR_BELOW = 2000000;
    private static final int REST_BY = 1000003;

    private final Text text;
    private final HarbourReader reader;
    private final Tongue grammar;
    /** What the texts have told, untouched by what is done since: a later text builds upon it. */
    private final World told;
    private final World now;
    private final World trial;
    private final Speech speech;
    private final History history;
    private final Sightings sightings;
    private final Reel[] reels;
    /** What KEEPS answers, a row of birds for each man; made once, for match() fills it anew. */
    private final int[] keptBy;

    public ParrotSpeech() {
        text = new Text();
        reader = new HarbourReader(text);
        grammar = new Tongue();
        told = new World();
        now = new World();
        trial = new World();
        speech = new Speech();
        history = new History();
        sightings = new Sightings();
        reels = new Reel[REELS];
        for (int reel = 0; reel < REELS; reel++) {
            reels[reel] = new Reel();
        }
        keptBy = new int[MOST_MEN * MOST_BIRDS];
    }

    // ---- what is told

    public int write(int letter) {
        if (isNot(letter, 0, MOST_LETTER)) {
            return OUTSIDE;
        }
        if (text.length >= MOST_LETTERS) {
            return FULL;
        }
        text.add(letter);
        return text.length;
    }

    public int erase() {
        int had = text.length;
        text.clear();
        return had;
    }

    public int fault(int what) {
        if (isNot(what, 0, 1)) {
            return OUTSIDE;
        }
        return what == 0 ? reader.readOver(told) : Tongue.faultIn(text);
    }

    public int harbour() {
        if (reader.readOver(told) != NONE) {
            return NOT;
        }
        told.become(reader.world);
        now.become(told);
        history.clear();
        sightings.clear();
        text.clear();
        return reader.clauses;
    }

    public int tongue() {
        if (Tongue.faultIn(text) != NONE) {
            return NOT;
        }
        grammar.take(text);
        text.clear();
        return grammar.words;
    }

    public int bird(int bird, int what) {
        if (noBird(bird)) {
            return UNKNOWN;
        }
        switch (what) {
            case 0:
                return now.kind[bird];
            case 1:
                return now.standsOn[bird];
            case 2:
                return now.isCovered(bird) ? 1 : 0;
            case 3:
                return now.manBeside(bird);
            case 4:
                return now.wellKnown(bird);
            default:
                return OUTSIDE;
        }
    }

    public int man(int man, int what) {
        if (noMan(man)) {
            return UNKNOWN;
        }
        if (isNot(what, 0, 1)) {
            return OUTSIDE;
        }
        return what == 0 ? now.has[man] : now.beside[man];
    }

    public int known(int bird, int word, int n) {
        if (noBird(bird) || noWord(word)) {
            return UNKNOWN;
        }
        if (isNot(n, 0, FAR)) {
            return OUTSIDE;
        }
        trial.become(now);
        for (int evening = 0; evening < n; evening++) {
            trial.passEvening(speech);
        }
        return trial.knowledge(bird, word);
    }

    public int as(int bird, int kind) {
        if (noBird(bird)) {
            return UNKNOWN;
        }
        if (isNot(kind, 0, MOST_OVER)) {
            return OUTSIDE;
        }
        int own = now.kind[bird];
        if ((IS[own] >> kind & 1) == 0) {
            return NOT;
        }
        return GETS[own];
    }

    // ---- what is done

    public int evening(int n) {
        if (isNot(n, 1, MOST_EVENINGS)) {
            return OUTSIDE;
        }
        if (now.evening + n > LAST_EVENING) {
            return FULL;
        }
        history.remember(now);
        for (int evening = 0; evening < n; evening++) {
            now.passEvening(speech);
        }
        return now.evening;
    }

    public int teach(int bird, int word) {
        if (noBird(bird) || noWord(word)) {
            return UNKNOWN;
        }
        history.remember(now);
        now.learn(bird, word, TAUGHT);
        return now.knowledge(bird, word);
    }

    public int moult(int bird) {
        if (noBird(bird)) {
            return UNKNOWN;
        }
        history.remember(now);
        now.halve(bird);
        return now.allKnowledge(bird);
    }

    public int perch(int bird, int perch) {
        if (noBird(bird) || noPerch(perch)) {
            return UNKNOWN;
        }
        int before = now.standsOn[bird];
        if (before == perch) {
            return NOT;
        }
        history.remember(now);
        now.standsOn[bird] = perch;
        return before;
    }

    public int cover(int bird) {
        if (noBird(bird)) {
            return UNKNOWN;
        }
        history.remember(now);
        now.covered ^= 1 << bird;
        return now.isCovered(bird) ? 1 : 0;
    }

    public int sit(int man, int bird) {
        if (noMan(man) || bird != NONE && noBird(bird)) {
            return UNKNOWN;
        }
        int before = now.beside[man];
        if (before == bird) {
            return NOT;
        }
        history.remember(now);
        now.seat(man, bird);
        return before;
    }

    public int undo() {
        if (history.size == 0) {
            return NOT;
        }
        history.takeBack(now);
        return history.size;
    }

    public int keep(int k) {
        if (isNot(k, 0, KEPT - 1)) {
            return UNKNOWN;
        }
        history.store(k, now);
        return now.evening;
    }

    public int back(int k) {
        if (isNot(k, 0, KEPT - 1)) {
            return UNKNOWN;
        }
        if (!history.isStored(k)) {
            return NOT;
        }
        history.restore(k, now);
        return now.evening;
    }

    // ---- foretold

    public int said(int perch, int i) {
        if (noPerch(perch)) {
            return UNKNOWN;
        }
        if (isNot(i, 0, MOST_SAID - 1)) {
            return OUTSIDE;
        }
        foretellSpeech();
        return speech.wordAt(perch, i);
    }

    public int when(int bird, int word, int k) {
        if (noBird(bird) || noWord(word)) {
            return UNKNOWN;
        }
        if (isNot(k, 1, BEST)) {
            return OUTSIDE;
        }
        trial.become(now);
        for (int evening = 0; evening <= FAR; evening++) {
            if (trial.knowledge(bird, word) >= k) {
                return evening;
            }
            trial.passEvening(speech);
        }
        return NONE;
    }

    public int keeps(int man, int bird, int n) {
        if (noMan(man) || noBird(bird)) {
            return UNKNOWN;
        }
        if (isNot(n, 1, NEAR)) {
            return OUTSIDE;
        }
        return keptWords(man, bird, n);
    }

    public int match(int n, int man) {
        if (man != NONE && noMan(man)) {
            return UNKNOWN;
        }
        if (isNot(n, 1, NEAR)) {
            return OUTSIDE;
        }
        for (int m = 0; m < now.men; m++) {
            for (int b = 0; b < now.birds; b++) {
                keptBy[m * MOST_BIRDS + b] = keptWords(m, b, n);
            }
        }
        return man == NONE ? mostKept(0, 0) : matchOf(man);
    }

    public int clean(int bird, int word, int n) {
        if (noBird(bird) || noWord(word)) {
            return UNKNOWN;
        }
        if (isNot(n, 1, NEAR)) {
            return OUTSIDE;
        }
        int able = now.hearable(bird);
        for (int size = 0; size < MOST_BIRDS; size++) {
            for (int set = 0; set < 1 << MOST_BIRDS; set++) {
                if ((set & ~able) == 0 && Integer.bitCount(set) == size && staysClean(bird, word, n, set)) {
                    return set;
                }
            }
        }
        return NONE;
    }

    public int of(int perch, int what) {
        if (noPerch(perch)) {
            return UNKNOWN;
        }
        if (isNot(what, 0, 1)) {
            return OUTSIDE;
        }
        if (grammar.length == 0) {
            return NOT;
        }
        foretellSpeech();
        int ends = grammar.endsIn(speech, perch);
        if (what == 0) {
            return ends >> speech.count[perch] & 1;
        }
        for (int longest = speech.count[perch]; longest >= 0; longest--) {
            if ((ends >> longest & 1) == 1) {
                return longest;
            }
        }
        return NONE;
    }

    public int left(int word, int q, int part) {
        if (noWord(word)) {
            return UNKNOWN;
        }
        if (isNot(q, 0, TEN) || isNot(part, 0, 1)) {
            return OUTSIDE;
        }
        int below = 1;
        int allDie = 1;
        for (int b = 0; b < now.birds; b++) {
            if (now.knowledge(b, word) >= WELL) {
                below *= TEN;
                allDie *= q;
            }
        }
        int above = below - allDie;
        int common = commonDivisor(below, above);
        return (part == 0 ? above : below) / common;
    }

    // ---- what was seen

    public int seen(int perch, int i, int word) {
        if (noPerch(perch) || word != NONE && noWord(word)) {
            return UNKNOWN;
        }
        if (isNot(i, 0, LAST_SEEN_PLACE)) {
            return OUTSIDE;
        }
        if (sightings.size >= MOST_SEEN) {
            return FULL;
        }
        sightings.add(perch, i, word);
        return sightings.size;
    }

    public int forget() {
        int had = sightings.size;
        sightings.clear();
        return had;
    }

    public int kinds(int bird) {
        if (noBird(bird)) {
            return UNKNOWN;
        }
        int fitting = 0;
        for (int kind = 0; kind < KINDS; kind++) {
            trial.become(now);
            trial.kind[bird] = kind;
            trial.passEvening(speech);
            if (sightings.agreeWith(speech)) {
                fitting |= 1 << kind;
            }
        }
        return fitting;
    }

    // ---- reels

    public int reel(int reel, int sort, int n) {
        if (noReel(reel)) {
            return UNKNOWN;
        }
        if (noSort(sort) || n > MOST_PLACES) {
            return OUTSIDE;
        }
        if (n < 0) {
            return SIZE;
        }
        reels[reel].wind(sort, n);
        return n;
    }

    public int record(int reel, int sort, int i, int v) {
        if (noReel(reel) || sort == BIRDS && v != NONE && noBird(v)) {
            return UNKNOWN;
        }
        if (noSort(sort)) {
            return OUTSIDE;
        }
        int found = reels[reel].find(sort, i);
        if (found < 0) {
            return found;
        }
        return reels[reel].put(i, v);
    }

    public int play(int reel, int sort, int i) {
        if (noReel(reel)) {
            return UNKNOWN;
        }
        if (noSort(sort)) {
            return OUTSIDE;
        }
        int found = reels[reel].find(sort, i);
        if (found < 0) {
            return found;
        }
        return reels[reel].sound(i);
    }

    public int splice(int from, int i, int to, int j, int n) {
        if (noReel(from) || noReel(to)) {
            return UNKNOWN;
        }
        Reel source = reels[from];
        Reel goal = reels[to];
        if (!source.there || !goal.there) {
            return NULL;
        }
        if (source.sort != goal.sort) {
            return STORE;
        }
        if (!source.holds(i, n) || !goal.holds(j, n)) {
            return INDEX;
        }
        System.arraycopy(source.places, i, goal.places, j, n);
        return n;
    }

    public int drop(int reel) {
        if (noReel(reel)) {
            return UNKNOWN;
        }
        if (!reels[reel].there) {
            return NULL;
        }
        reels[reel].there = false;
        return reels[reel].length;
    }

    public int count(int what) {
        switch (what) {
            case 0:
                return now.birds;
            case 1:
                return now.men;
            case 2:
                return now.evening;
            case 3:
                return now.covered;
            case 4:
                return now.allWordsOfMen();
            case 5:
                return sightings.size;
            case 6:
                return reelsThere();
            case 7:
                return history.size;
            case 8:
                return text.length;
            case 9:
                return now.wellKnownBySome();
            default:
                return OUTSIDE;
        }
    }

    // ---- what the calls share

    private static boolean isNot(int number, int least, int most) {
        return number < least || number > most;
    }

    private boolean noBird(int bird) {
        return isNot(bird, 0, now.birds - 1);
    }

    private boolean noMan(int man) {
        return isNot(man, 0, now.men - 1);
    }

    private static boolean noWord(int word) {
        return isNot(word, 0, WORDS - 1);
    }

    private static boolean noPerch(int perch) {
        return isNot(perch, 0, PERCHES - 1);
    }

    private static boolean noReel(int reel) {
        return isNot(reel, 0, REELS - 1);
    }

    private static boolean noSort(int sort) {
        return isNot(sort, BYTES, BIRDS);
    }

    private void foretellSpeech() {
        trial.become(now);
        trial.passEvening(speech);
    }

    private int keptWords(int man, int bird, int n) {
        trial.become(now);
        trial.seat(man, bird);
        for (int evening = 0; evening < n; evening++) {
            trial.passEvening(speech);
        }
        return Integer.bitCount(now.has[man] & trial.wellKnown(bird));
    }

    /** The most that the men from this one on can have kept together by birds that are not used yet. */
    private int mostKept(int man, int used) {
        if (man >= now.men) {
            return 0;
        }
        int most = mostKept(man + 1, used);
        for (int b = 0; b < now.birds; b++) {
            if ((used >> b & 1) == 0) {
                most = Math.max(most, keptBy[man * MOST_BIRDS + b] + mostKept(man + 1, used | 1 << b));
            }
        }
        return most;
    }

    /** Men choose in their order, for the first of several matches is due. */
    private int matchOf(int man) {
        int used = 0;
        int choice = NONE;
        for (int m = 0; m <= man; m++) {
            choice = leastChoice(m, used);
            if (choice != NONE) {
                used |= 1 << choice;
            }
        }
        return choice;
    }

    private int leastChoice(int man, int used) {
        int most = mostKept(man, used);
        for (int b = 0; b < now.birds; b++) {
            if ((used >> b & 1) == 0
                    && keptBy[man * MOST_BIRDS + b] + mostKept(man + 1, used | 1 << b) == most) {
                return b;
            }
        }
        return NONE;
    }

    private boolean staysClean(int bird, int word, int n, int set) {
        trial.become(now);
        trial.covered |= set;
        for (int evening = 0; evening < n; evening++) {
            trial.passEvening(speech);
        }
        return trial.knowledge(bird, word) < WELL;
    }

    /** Never 0, so that it may divide; below 2 to the 31st it is found in fewer turns than the bound. */
    private static int commonDivisor(int one, int other) {
        int a = one;
        int b = other;
        for (int turn = 0; turn < MOST_TURNS && b > 0; turn++) {
            int rest = a % b;
            a = b;
            b = rest;
        }
        return Math.max(a, 1);
    }

    private int reelsThere() {
        int there = 0;
        for (int reel = 0; reel < REELS; reel++) {
            if (reels[reel].there) {
                there++;
            }
        }
        return there;
    }

    /** All birds, all men and the evening. */
    private static final class World {
        int birds;
        int men;
        int evening;
        int covered;
        final int[] kind = new int[MOST_BIRDS];
        final int[] standsOn = new int[MOST_BIRDS];
        final int[] knows = new int[MOST_BIRDS * WORDS];
        final int[] has = new int[MOST_MEN];
        final int[] beside = new int[MOST_MEN];

        void become(World other) {
            birds = other.birds;
            men = other.men;
            evening = other.evening;
            covered = other.covered;
            System.arraycopy(other.kind, 0, kind, 0, MOST_BIRDS);
            System.arraycopy(other.standsOn, 0, standsOn, 0, MOST_BIRDS);
            System.arraycopy(other.knows, 0, knows, 0, MOST_BIRDS * WORDS);
            System.arraycopy(other.has, 0, has, 0, MOST_MEN);
            System.arraycopy(other.beside, 0, beside, 0, MOST_MEN);
        }

        void clear() {
            birds = 0;
            men = 0;
            evening = 0;
            covered = 0;
        }

        void addBird(int ofKind, int perch) {
            kind[birds] = ofKind;
            standsOn[birds] = perch;
            for (int word = 0; word < WORDS; word++) {
                knows[birds * WORDS + word] = 0;
            }
            birds++;
        }

        void addMan(int words) {
            has[men] = words;
            beside[men] = NONE;
            men++;
        }

        boolean isCovered(int bird) {
            return (covered >> bird & 1) == 1;
        }

        int knowledge(int bird, int word) {
            return knows[bird * WORDS + word];
        }

        int allKnowledge(int bird) {
            int all = 0;
            for (int word = 0; word < WORDS; word++) {
                all += knowledge(bird, word);
            }
            return all;
        }

        int wellKnown(int bird) {
            int well = 0;
            for (int word = 0; word < WORDS; word++) {
                if (knowledge(bird, word) >= WELL) {
                    well |= 1 << word;
                }
            }
            return well;
        }

        int wellKnownBySome() {
            int well = 0;
            for (int b = 0; b < birds; b++) {
                well |= wellKnown(b);
            }
            return well;
        }

        int allWordsOfMen() {
            int all = 0;
            for (int m = 0; m < men; m++) {
                all += Integer.bitCount(has[m]);
            }
            return all;
        }

        int manBeside(int bird) {
            for (int m = 0; m < men; m++) {
                if (beside[m] == bird) {
                    return m;
                }
            }
            return NONE;
        }

        void seat(int man, int bird) {
            int former = bird == NONE ? NONE : manBeside(bird);
            if (former != NONE) {
                beside[former] = NONE;
            }
            beside[man] = bird;
        }

        void learn(int bird, int word, int more) {
            int by = knows[bird * WORDS + word] + more;
            knows[bird * WORDS + word] = by > BEST ? BEST : by;
        }

        void halve(int bird) {
            for (int word = 0; word < WORDS; word++) {
                knows[bird * WORDS + word] /= 2;
            }
        }

        /** The other birds that this one may hear: no bird of another perch can change what it knows. */
        int hearable(int bird) {
            return awakeOn(standsOn[bird]) & ~(1 << bird);
        }

        void passEvening(Speech speech) {
            for (int m = 0; m < men; m++) {
                handOver(m);
            }
            speech.clear();
            for (int perch = 0; perch < PERCHES; perch++) {
                int awake = awakeOn(perch);
                if (!isSilenced(awake)) {
                    speakOn(perch, awake, speech);
                }
            }
            if (evening % 3 == 2) {
                for (int b = 0; b < birds; b++) {
                    lose(b);
                }
            }
            evening++;
        }

        private void handOver(int man) {
            int bird = beside[man];
            if (bird == NONE || has[man] == 0 || isCovered(bird)) {
                return;
            }
            int gets = GETS[kind[bird]];
            if (gets > 0) {
                learn(bird, Integer.numberOfTrailingZeros(has[man]), gets);
                has[man] &= has[man] - 1;
            }
        }

        /** The birds that stand there and are not covered, by bits. */
        private int awakeOn(int perch) {
            int awake = 0;
            for (int b = 0; b < birds; b++) {
                if (standsOn[b] == perch) {
                    awake |= 1 << b;
                }
            }
            return awake & ~covered;
        }

        private boolean isSilenced(int awake) {
            for (int b = 0; b < birds; b++) {
                if ((awake >> b & 1) == 1 && kind[b] == HAWK) {
                    return true;
                }
            }
            return false;
        }

        private void speakOn(int perch, int awake, Speech speech) {
            for (int b = 0; b < birds; b++) {
                if ((awake >> b & 1) == 1) {
                    speak(b, perch, awake & ~(1 << b), speech);
                }
            }
        }

        /** A bird never hears itself, so what it says can be found word by word. */
        private void speak(int bird, int perch, int hearers, Speech speech) {
            int alreadySaid = 0;
            for (int turn = 0; turn < SAYS[kind[bird]]; turn++) {
                int word = bestKnown(bird, alreadySaid);
                if (word == NONE) {
                    return;
                }
                alreadySaid |= 1 << word;
                speech.add(perch, word);
                spread(word, hearers);
            }
        }

        private int bestKnown(int bird, int without) {
            int best = NONE;
            int most = 0;
            for (int word = 0; word < WORDS; word++) {
                int by = knows[bird * WORDS + word];
                if (by > most && (without >> word & 1) == 0) {
                    most = by;
                    best = word;
                }
            }
            return best;
        }

        private void spread(int word, int hearers) {
            for (int b = 0; b < birds; b++) {
                if ((hearers >> b & 1) == 1) {
                    learn(b, word, HEARS[kind[b]]);
                }
            }
        }

        private void lose(int bird) {
            if (isCovered(bird)) {
                return;
            }
            for (int word = 0; word < WORDS; word++) {
                int by = knowledge(bird, word);
                if (by >= 1 && by < WELL) {
                    knows[bird * WORDS + word] = Math.max(0, by - LOSES[kind[bird]]);
                }
            }
        }
    }

    /** What is said on each perch in one evening, in its order. */
    private static final class Speech {
        final int[] words = new int[PERCHES * MOST_SAID];
        final int[] count = new int[PERCHES];

        void clear() {
            for (int perch = 0; perch < PERCHES; perch++) {
                count[perch] = 0;
            }
        }

        void add(int perch, int word) {
            if (count[perch] < MOST_SAID) {
                words[perch * MOST_SAID + count[perch]] = word;
                count[perch]++;
            }
        }

        int wordAt(int perch, int i) {
            return i < count[perch] ? words[perch * MOST_SAID + i] : NONE;
        }
    }

    /** The last states, to be undone, and those that were kept. */
    private static final class History {
        private final World[] before = new World[MOST_UNDONE];
        private final World[] kept = new World[KEPT];
        private int next;
        private int storedBits;
        int size;

        History() {
            for (int i = 0; i < MOST_UNDONE; i++) {
                before[i] = new World();
            }
            for (int k = 0; k < KEPT; k++) {
                kept[k] = new World();
            }
        }

        void clear() {
            size = 0;
            storedBits = 0;
        }

        void remember(World world) {
            before[next].become(world);
            next = (next + 1) % MOST_UNDONE;
            size = Math.min(size + 1, MOST_UNDONE);
        }

        void takeBack(World world) {
            next = (next + MOST_UNDONE - 1) % MOST_UNDONE;
            size--;
            world.become(before[next]);
        }

        void store(int k, World world) {
            kept[k].become(world);
            storedBits |= 1 << k;
        }

        boolean isStored(int k) {
            return (storedBits >> k & 1) == 1;
        }

        void restore(int k, World world) {
            world.become(kept[k]);
            size = 0;
        }
    }

    /** What was seen of the next evening. */
    private static final class Sightings {
        private final int[] perches = new int[MOST_SEEN];
        private final int[] turns = new int[MOST_SEEN];
        private final int[] words = new int[MOST_SEEN];
        int size;

        void clear() {
            size = 0;
        }

        void add(int perch, int turn, int word) {
            perches[size] = perch;
            turns[size] = turn;
            words[size] = word;
            size++;
        }

        boolean agreeWith(Speech speech) {
            for (int s = 0; s < size; s++) {
                if (speech.wordAt(perches[s], turns[s]) != words[s]) {
                    return false;
                }
            }
            return true;
        }
    }

    /** A row of letters, read token by token. */
    private static final class Text {
        private static final int SMALL = 0;
        private static final int DIGIT = 1;
        private static final int OTHER = 2;

        final int[] letters = new int[MOST_LETTERS];
        int length;
        /** Where the token that is read begins, and the place behind it; alike at the text's end. */
        int place;
        int behind;

        void add(int letter) {
            letters[length] = letter;
            length++;
        }

        void clear() {
            length = 0;
        }

        void begin() {
            place = 0;
            behind = 0;
        }

        /** Reads a row of small letters, a row of digits, or any other letter. */
        void readToken() {
            readLetter();
            if (isOver() || sortOf(letters[place]) == OTHER) {
                return;
            }
            while (behind < length && sortOf(letters[behind]) == sortOf(letters[place])) {
                behind++;
            }
        }

        /** Reads one letter, for in a tongue each stands by itself. */
        void readLetter() {
            place = behind;
            while (place < length && letters[place] == ' ') {
                place++;
            }
            behind = Math.min(place + 1, length);
        }

        boolean isOver() {
            return place >= length;
        }

        boolean isSign(char sign) {
            return behind - place == 1 && letters[place] == sign;
        }

        boolean isRow(String row) {
            if (behind - place != row.length()) {
                return false;
            }
            for (int i = 0; i < row.length(); i++) {
                if (letters[place + i] != row.charAt(i)) {
                    return false;
                }
            }
            return true;
        }

        /** The number of one digit that is read, if it is below the bound; NONE. */
        int numberBelow(int bound) {
            if (behind - place != 1 || sortOf(letters[place]) != DIGIT) {
                return NONE;
            }
            int number = letters[place] - '0';
            return number < bound ? number : NONE;
        }

        /** The word of one letter that is read; NONE. */
        int oneWord() {
            return behind - place == 1 ? wordOf(letters[place]) : NONE;
        }

        /** The words that are read, rising, by bits; none if they are not so. */
        int risingWords() {
            int words = 0;
            int last = NONE;
            for (int i = place; i < behind; i++) {
                int word = wordOf(letters[i]);
                if (word <= last) {
                    return 0;
                }
                words |= 1 << word;
                last = word;
            }
            return words;
        }

        static int wordOf(int letter) {
            return letter >= 'a' && letter < 'a' + WORDS ? letter - 'a' : NONE;
        }

        private static int sortOf(int letter) {
            if (letter >= 'a' && letter <= 'z') {
                return SMALL;
            }
            return letter >= '0' && letter <= '9' ? DIGIT : OTHER;
        }
    }

    /** Reads the text as a harbour, clause by clause, each done as it is read in a world set apart. */
    private static final class HarbourReader {
        private final Text text;
        final World world = new World();
        int clauses;

        HarbourReader(Text text) {
            this.text = text;
        }

        /** The place of the text's fault, or NONE; then the world is as told, beginning with this one. */
        int readOver(World told) {
            world.become(told);
            text.begin();
            for (clauses = 1; clauses <= MOST_CLAUSES; clauses++) {
                text.readToken();
                if (!readClause()) {
                    return text.place;
                }
                text.readToken();
                if (text.isOver()) {
                    return NONE;
                }
                if (!text.isSign(';')) {
                    return text.place;
                }
            }
            // The sign behind the last clause that there may be announces one too many.
            return text.place;
        }

        /** Whether each token of the clause can stand there; else the text stays at the one that cannot. */
        private boolean readClause() {
            int kind = kindNamed();
            if (kind != NONE) {
                return readBird(kind);
            }
            if (text.isRow("harbour")) {
                world.clear();
                return true;
            }
            if (text.isRow("man")) {
                return readMan();
            }
            if (text.isRow("knows")) {
                return readKnows();
            }
            if (text.isRow("sits")) {
                return readSits();
            }
            return text.isRow("cover") && readCover();
        }

        private int kindNamed() {
            if (text.isRow("parrot")) {
                return PARROT;
            }
            if (text.isRow("grey")) {
                return GREY;
            }
            if (text.isRow("cockatoo")) {
                return COCKATOO;
            }
            if (text.isRow("hawk")) {
                return HAWK;
            }
            return text.isRow("green") ? GREEN : NONE;
        }

        private boolean readBird(int kind) {
            if (world.birds >= MOST_BIRDS) {
                return false;
            }
            int perch = readNumber(PERCHES);
            if (perch == NONE) {
                return false;
            }
            world.addBird(kind, perch);
            return true;
        }

        private boolean readMan() {
            if (world.men >= MOST_MEN) {
                return false;
            }
            text.readToken();
            int words = text.risingWords();
            if (words == 0) {
                return false;
            }
            world.addMan(words);
            return true;
        }

        private boolean readKnows() {
            int bird = readNumber(world.birds);
            if (bird == NONE) {
                return false;
            }
            text.readToken();
            int word = text.oneWord();
            if (word == NONE) {
                return false;
            }
            int by = readNumber(BEST + 1);
            if (by == NONE) {
                return false;
            }
            world.knows[bird * WORDS + word] = by;
            return true;
        }

        private boolean readSits() {
            int man = readNumber(world.men);
            if (man == NONE) {
                return false;
            }
            int bird = readNumber(world.birds);
            if (bird == NONE) {
                return false;
            }
            int former = world.manBeside(bird);
            if (former != NONE && former != man) {
                return false;
            }
            world.seat(man, bird);
            return true;
        }

        private boolean readCover() {
            int bird = readNumber(world.birds);
            if (bird == NONE) {
                return false;
            }
            world.covered |= 1 << bird;
            return true;
        }

        private int readNumber(int bound) {
            text.readToken();
            return text.numberBelow(bound);
        }
    }

    /** A small grammar of words, kept as its letters without blanks. */
    private static final class Tongue {
        private final int[] signs = new int[MOST_LETTERS];
        /** At each opening sign the place of the one that closes it. */
        private final int[] closedAt = new int[MOST_LETTERS];
        private final int[] open = new int[MOST_DEEP];
        private final int[] heard = new int[MOST_SAID];
        private int heardCount;
        /** 0: there is no tongue, for none is without a letter. */
        int length;
        int words;

        /** The place of the text's fault, taken as a tongue; NONE. */
        static int faultIn(Text text) {
            int depth = 0;
            boolean needsPart = true;
            boolean mayRepeat = false;
            text.begin();
            text.readLetter();
            for (int n = 0; n < MOST_LETTERS && !text.isOver(); n++) {
                if (text.oneWord() != NONE || text.isSign('.')) {
                    needsPart = false;
                    mayRepeat = true;
                } else if (text.isSign('(') && depth < MOST_DEEP) {
                    depth++;
                    needsPart = true;
                    mayRepeat = false;
                } else if (text.isSign(')') && depth > 0 && !needsPart) {
                    depth--;
                    mayRepeat = true;
                } else if (text.isSign('|') && !needsPart) {
                    needsPart = true;
                    mayRepeat = false;
                } else if (text.isSign('*') && mayRepeat) {
                    mayRepeat = false;
                } else {
                    return text.place;
                }
                text.readLetter();
            }
            return needsPart || depth > 0 ? text.length : NONE;
        }

        /** Becomes the tongue of a text without a fault. */
        void take(Text text) {
            int depth = 0;
            length = 0;
            words = 0;
            for (int i = 0; i < text.length; i++) {
                int sign = text.letters[i];
                if (sign == ' ') {
                    continue;
                }
                if (sign == '(' && depth < MOST_DEEP) {
                    open[depth] = length;
                    depth++;
                } else if (sign == ')' && depth > 0) {
                    depth--;
                    closedAt[open[depth]] = length;
                } else if (sign == '.' || Text.wordOf(sign) != NONE) {
                    words++;
                }
                signs[length] = sign;
                length++;
            }
        }

        /** How many words from the beginning on can be a sum, by bits. */
        int endsIn(Speech speech, int perch) {
            heardCount = speech.count[perch];
            for (int i = 0; i < heardCount; i++) {
                heard[i] = speech.wordAt(perch, i);
            }
            return sumEnds(0, length, 1, 0);
        }

        /** Where the sum between two places of the grammar can end, by bits, if it begins at one of these. */
        private int sumEnds(int from, int to, int starts, int depth) {
            int ends = 0;
            int here = starts;
            int at = from;
            for (int step = 0; step < MOST_LETTERS && at < to; step++) {
                if (signs[at] == '|') {
                    ends |= here;
                    here = starts;
                    at++;
                    continue;
                }
                int behind = behindPart(at);
                if (behind < to && signs[behind] == '*') {
                    here = repeatedEnds(at, behind, here, depth);
                    behind++;
                } else {
                    here = partEnds(at, behind, here, depth);
                }
                at = behind;
            }
            return ends | here;
        }

        /** Always beyond the place, so that reading goes on to its end. */
        private int behindPart(int at) {
            return signs[at] == '(' ? Math.max(at, closedAt[at]) + 1 : at + 1;
        }

        /** Follows only ends that are new: there are no more of them than words, and one. */
        private int repeatedEnds(int at, int behind, int starts, int depth) {
            int ends = starts;
            int fresh = starts;
            for (int turn = 0; turn <= MOST_SAID && fresh != 0; turn++) {
                fresh = partEnds(at, behind, fresh, depth) & ~ends;
                ends |= fresh;
            }
            return ends;
        }

        private int partEnds(int at, int behind, int starts, int depth) {
            if (signs[at] != '(') {
                return wordEnds(signs[at], starts);
            }
            return depth < MOST_DEEP ? sumEnds(at + 1, behind - 1, starts, depth + 1) : 0;
        }

        private int wordEnds(int sign, int starts) {
            int ends = 0;
            for (int i = 0; i < heardCount; i++) {
                if ((starts >> i & 1) == 1 && (sign == '.' || heard[i] == Text.wordOf(sign))) {
                    ends |= 2 << i;
                }
            }
            return ends;
        }
    }

    /** A row of a sort, or missing. Its places are ints whatever the sort: they are cut when put. */
    private static final class Reel {
        final int[] places = new int[MOST_PLACES];
        boolean there;
        int sort;
        int length;

        void wind(int ofSort, int n) {
            there = true;
            sort = ofSort;
            length = n;
            for (int i = 0; i < MOST_PLACES; i++) {
                places[i] = ofSort == BIRDS ? NONE : 0;
            }
        }

        /** What the machine finds wrong in looking at a place; else 0. */
        int find(int asSort, int i) {
            if (!there) {
                return NULL;
            }
            if (sort != asSort) {
                return CAST;
            }
            return i < 0 || i >= length ? INDEX : 0;
        }

        boolean holds(int i, int n) {
            return i >= 0 && n >= 0 && (long) i + n <= length;
        }

        int put(int i, int v) {
            switch (sort) {
                case BYTES:
                    places[i] = (byte) v;
                    return places[i] + MORE_FOR_SMALL;
                case SHORTS:
                    places[i] = (short) v;
                    return places[i] + MORE_FOR_SMALL;
                case INTS:
                    places[i] = v;
                    return 1;
                default:
                    places[i] = v;
                    return v;
            }
        }

        int sound(int i) {
            int v = places[i];
            switch (sort) {
                case BYTES:
                case SHORTS:
                    return v + MORE_FOR_SMALL;
                case INTS:
                    // ~v is how far v is below 0, less 1, and fits for every int.
                    return v < 0 ? ~v % REST_BY + MORE_FOR_BELOW : v % REST_BY;
                default:
                    return v == NONE ? EMPTY : v;
            }
        }
    }
}
