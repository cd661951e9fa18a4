/**
 * Words for rent: a republic owns its language, and a word is hired by the day from whoever holds it.
 *
 * The public methods test what they are told, in the document's order of refusals, and ask the classes inside.
 * All rows are made by the constructor: no later call makes an object, for all calls of a run share one room.
 */
public final class WordRents {
    public static final int NONE = -6, UNKNOWN = -1, OUTSIDE = -2, STATE = -3, FULL = -4, NO = -5;
    public static final long LOST = -1000000000000000000L;

    private static final int WORDS = 8, ALL_WORDS = 255;
    private static final int NOUN = 0, VERB = 1, JOINER = 2;
    private static final int MEANINGS = 5, RHYMES = 4;
    private static final int FIRMS = 4, NOBODY = 4;
    private static final int TOP_RENT = 99, TOP_FAR = 9, TOP_DRIFT = 9;
    private static final int FIRST_CAP = 20, FIRST_DRIFT = 3;
    private static final int SHORT = 3, LONG = 5;
    private static final int SIGNS = 60, FIRST_SIGN = 33, LAST_SIGN = 126;
    private static final int MOST_LISTED = 4, MOST_SIGHTS = 6, IMAGES = 2;
    private static final int TOP_SLACK = 36, TOP_PENCE = 999, TOP_DAYS = 99, TOP_SEED = 9999;
    private static final int TENTHS = 10, TOP_ASKED = 9;

    // Eight letters at five places: more than any walk through SENTENCES can need.
    private static final int MOST_SENTENCES = 32768;

    private final Pad pad;
    private final Republic now;
    private final Republic trial;
    private final Republic[] images;
    private final boolean[] kept;
    private final Till till;
    private final Search search;
    private final Clerk clerk;
    private final Calendar calendar;
    private final Chance chance;

    public WordRents() {
        pad = new Pad();
        now = new Republic();
        trial = new Republic();
        images = new Republic[IMAGES];
        for (int n = 0; n < IMAGES; n++) {
            images[n] = new Republic();
        }
        kept = new boolean[IMAGES];
        till = new Till();
        search = new Search();
        clerk = new Clerk();
        calendar = new Calendar();
        chance = new Chance();
    }

    // ---- 1 words, leases

    public int word(int word, int sort, int meaning, int rhyme, int rent) {
        if (!within(word, 0, WORDS - 1)) {
            return UNKNOWN;
        }
        if (!within(sort, NOUN, JOINER) || !isMeaning(meaning) || !isRhyme(rhyme) || !within(rent, 0, TOP_RENT)) {
            return OUTSIDE;
        }
        now.put(word, sort, meaning, rhyme, rent);
        return Integer.bitCount(now.words());
    }

    public int strikeOut(int word) {
        if (!now.has(word)) {
            return UNKNOWN;
        }
        now.drop(word);
        return Integer.bitCount(now.words());
    }

    public int far(int meaning, int other, int v) {
        if (!isMeaning(meaning) || !isMeaning(other) || meaning == other || !within(v, 0, TOP_FAR)) {
            return OUTSIDE;
        }
        int was = now.between(meaning, other);
        now.part(meaning, other, v);
        return was;
    }

    public int set(int which, int v) {
        if (which == 0 && within(v, 1, TOP_RENT)) {
            int was = now.cap;
            now.cap = v;
            return was;
        }
        if (which == 1 && within(v, 1, TOP_DRIFT)) {
            int was = now.drift;
            now.drift = v;
            return was;
        }
        return OUTSIDE;
    }

    public int say(int sign) {
        if (!within(sign, FIRST_SIGN, LAST_SIGN)) {
            return OUTSIDE;
        }
        if (!pad.put(sign)) {
            return FULL;
        }
        return pad.size();
    }

    public int wipe() {
        int was = pad.size();
        pad.clear();
        return was;
    }

    public int fault(int how) {
        if (how == 0) {
            return pad.sentenceFault(now);
        }
        if (how == 1) {
            return pad.leasesFault();
        }
        return OUTSIDE;
    }

    // ---- 2 prices

    public int price(int speaker) {
        if (!isSpeaker(speaker)) {
            return UNKNOWN;
        }
        if (!holdsSentence()) {
            return NO;
        }
        return till.paid(now, now.costing(pad.words(), speaker), NOBODY);
    }

    public int gets(int speaker, int firm) {
        if (!isSpeaker(speaker) || !isFirm(firm)) {
            return UNKNOWN;
        }
        if (!holdsSentence()) {
            return NO;
        }
        return till.paid(now, now.costing(pad.words(), speaker), firm);
    }

    public int nearly(int speaker, int slack, int what) {
        if (!isSpeaker(speaker)) {
            return UNKNOWN;
        }
        if (!within(slack, 0, TOP_SLACK) || !within(what, 0, 1 + LONG)) {
            return OUTSIDE;
        }
        if (!holdsSentence()) {
            return NO;
        }
        if (what > 1 + pad.size()) {
            return OUTSIDE;
        }
        search.nearest(now, pad, speaker, slack);
        if (what == 0) {
            return search.price;
        }
        return what == 1 ? search.distance : search.wordAt(what - 2);
    }

    public int said(int speaker, int pence, int what) {
        if (!isSpeaker(speaker)) {
            return UNKNOWN;
        }
        if (!within(pence, 0, TOP_PENCE) || !within(what, 0, 1 + LONG)) {
            return OUTSIDE;
        }
        search.affordable(now, speaker, pence);
        if (what == 0) {
            return search.count;
        }
        return what == 1 ? search.longOnes : search.wordAt(what - 2);
    }

    public int misprints(int speaker, int what) {
        if (!isSpeaker(speaker)) {
            return UNKNOWN;
        }
        if (!within(what, 0, 3)) {
            return OUTSIDE;
        }
        if (!holdsSentence()) {
            return NO;
        }
        search.misprinted(now, pad, speaker);
        if (what == 0) {
            return search.count;
        }
        if (search.count == 0) {
            return NONE;
        }
        if (what == 1) {
            return search.place;
        }
        return what == 2 ? search.letter : search.price;
    }

    // ---- 3 days

    public int judge(int what) {
        if (!within(what, 0, 1)) {
            return OUTSIDE;
        }
        if (pad.leasesFault() != NONE) {
            return NO;
        }
        if (leasesCanBe()) {
            return NONE;
        }
        return what == 0 ? clerk.acts : clerk.why;
    }

    public int done() {
        if (!leasesCanBe()) {
            return NO;
        }
        now.copy(trial);
        pad.clear();
        return clerk.acts;
    }

    public int state(int word, int what) {
        if (!now.has(word)) {
            return UNKNOWN;
        }
        if (!within(what, 0, 2)) {
            return OUTSIDE;
        }
        return now.property(word, what);
    }

    public int behind(int word, int what) {
        if (!now.has(word)) {
            return UNKNOWN;
        }
        if (!within(what, 0, 2)) {
            return OUTSIDE;
        }
        if (!leasesCanBe()) {
            return NO;
        }
        return trial.property(word, what);
    }

    public int after(int word, int m, int what) {
        if (!now.has(word)) {
            return UNKNOWN;
        }
        if (!within(m, 0, TOP_DAYS) || !within(what, 0, 2)) {
            return OUTSIDE;
        }
        trial.copy(now);
        for (int day = 0; day < m; day++) {
            trial.passDay();
        }
        return trial.property(word, what);
    }

    public int settles() {
        trial.copy(now);
        calendar.watchRents(trial);
        return calendar.between == 1 ? calendar.until : NONE;
    }

    public int round() {
        trial.copy(now);
        calendar.watchRents(trial);
        return calendar.between > 1 ? calendar.between : NONE;
    }

    // ---- 4 lists, strikes, who spoke

    public int list() {
        if (!holdsSentence()) {
            return NO;
        }
        if (!now.enlist(pad.words())) {
            return FULL;
        }
        pad.clear();
        return now.listed;
    }

    public int held(int what) {
        if (!within(what, 0, 1)) {
            return OUTSIDE;
        }
        int fewest = ALL_WORDS;
        for (int words = 0; words < ALL_WORDS; words++) {
            if (Integer.bitCount(words) < Integer.bitCount(fewest) && now.meetsList(words)) {
                fewest = words;
            }
        }
        return what == 0 ? Integer.bitCount(fewest) : fewest;
    }

    public int strike(int set) {
        if (!within(set, 0, ALL_WORDS)) {
            return OUTSIDE;
        }
        return now.sentencesWithout(set);
    }

    public int worst() {
        int worst = NONE;
        int fewest = 0;
        for (int word = 0; word < WORDS; word++) {
            if (now.has(word)) {
                int left = now.sentencesWithout(1 << word);
                if (worst == NONE || left < fewest) {
                    worst = word;
                    fewest = left;
                }
            }
        }
        return worst;
    }

    public int seen(int firm, int set) {
        if (!isFirm(firm)) {
            return UNKNOWN;
        }
        if (!within(set, 0, ALL_WORDS)) {
            return OUTSIDE;
        }
        if (!now.addSight(firm, set)) {
            return FULL;
        }
        return now.sights;
    }

    public int forget(int which) {
        if (which == 0) {
            int was = now.listed;
            now.listed = 0;
            return was;
        }
        if (which == 1) {
            int was = now.sights;
            now.sights = 0;
            return was;
        }
        return OUTSIDE;
    }

    public int spoke(int sight, int what) {
        if (!within(sight, 0, now.sights - 1) || !within(what, 0, SHORT)) {
            return OUTSIDE;
        }
        search.spoken(now, now.firmSeen(sight), now.wordsSeen(sight));
        return what == 0 ? search.count : search.wordAt(what - 1);
    }

    public int who() {
        if (!holdsSentence()) {
            return NO;
        }
        int firms = 0;
        for (int firm = 0; firm < FIRMS; firm++) {
            if (now.sightsAllow(firm, now.costing(pad.words(), firm))) {
                firms |= 1 << firm;
            }
        }
        return firms;
    }

    public long let(int t, int which, int part) {
        if (!within(t, 0, TENTHS) || !within(which, 0, 2) || !within(part, 0, 1)) {
            return LOST + OUTSIDE;
        }
        if (which == 0 && !holdsSentence()) {
            return LOST + NO;
        }
        chance.reckon(now, pad.words(), which, t);
        return part == 0 ? chance.upper : chance.lower;
    }

    public int rests(int word, int other, int i) {
        if (!now.has(word) || !now.has(other) || word == other) {
            return UNKNOWN;
        }
        if (!now.areRivals(word, other)) {
            return STATE;
        }
        return Rivals.restOrCount(i);
    }

    public int year(int seed, int m, int what) {
        if (!within(seed, 0, TOP_SEED) || !within(m, 1, TOP_DAYS) || !within(what, 0, 2)) {
            return OUTSIDE;
        }
        trial.copy(now);
        calendar.drawDays(trial, seed, m);
        if (what == 0) {
            return calendar.taken;
        }
        return what == 1 ? calendar.givenUp : trial.allRents();
    }

    public int image(int n) {
        if (!within(n, 0, IMAGES - 1)) {
            return OUTSIDE;
        }
        images[n].copy(now);
        kept[n] = true;
        return 1;
    }

    public int restore(int n) {
        if (!within(n, 0, IMAGES - 1)) {
            return OUTSIDE;
        }
        if (!kept[n]) {
            return STATE;
        }
        now.copy(images[n]);
        return 1;
    }

    public int told(int what) {
        switch (what) {
            case 0:
                return pad.size();
            case 1:
                return now.words();
            case 2:
                return now.cap;
            case 3:
                return now.drift;
            case 4:
                return now.days;
            case 5:
                return now.listed;
            case 6:
                return now.sights;
            default:
                return what < 100 ? toldOfWord(what / 10 - 1, what % 10) : toldOfFar(what - 100);
        }
    }

    // ---- what the calls share

    private int toldOfWord(int word, int what) {
        if (!now.has(word) || !within(what, 0, 1)) {
            return OUTSIDE;
        }
        return what == 0 ? now.sortOf(word) : now.rhymeOf(word);
    }

    private int toldOfFar(int pair) {
        int meaning = pair / 10;
        int other = pair % 10;
        if (!isMeaning(meaning) || !isMeaning(other)) {
            return OUTSIDE;
        }
        return now.between(meaning, other);
    }

    private boolean holdsSentence() {
        return pad.sentenceFault(now) == NONE;
    }

    /** Plays the LEASES on the PAD on the trial republic, which is as all will be, if they can be. */
    private boolean leasesCanBe() {
        if (pad.leasesFault() != NONE) {
            return false;
        }
        trial.copy(now);
        return clerk.play(pad, trial);
    }

    private static boolean within(int v, int least, int most) {
        return v >= least && v <= most;
    }

    private static boolean isMeaning(int meaning) {
        return meaning >= 0 && meaning < MEANINGS;
    }

    private static boolean isRhyme(int rhyme) {
        return rhyme >= 0 && rhyme < RHYMES;
    }

    private static boolean isFirm(int firm) {
        return firm >= 0 && firm < FIRMS;
    }

    private static boolean isSpeaker(int speaker) {
        return isFirm(speaker) || speaker == NOBODY;
    }

    private static int sortAt(int place) {
        if (place == 1) {
            return VERB;
        }
        return place == 3 ? JOINER : NOUN;
    }

    /** The PAD: signs, and whether they are a SENTENCE or LEASES. */
    private static final class Pad {
        private final int[] signs = new int[SIGNS];
        private int size;

        int size() {
            return size;
        }

        boolean put(int sign) {
            if (size < 0 || size >= SIGNS) {
                return false;
            }
            signs[size] = sign;
            size++;
            return true;
        }

        void clear() {
            size = 0;
        }

        int signAt(int place) {
            return place >= 0 && place < size && place < SIGNS ? signs[place] : 0;
        }

        /** The WORD whose letter stands at a place; another sign gives a number that is no WORD. */
        int wordAt(int place) {
            return signAt(place) - 'a';
        }

        int words() {
            return wordsBut(NONE, NONE);
        }

        /** The WORDS of the SENTENCE, if another one stood at one place. */
        int wordsBut(int place, int word) {
            int words = 0;
            for (int i = 0; i < LONG && i < size; i++) {
                int here = i == place ? word : wordAt(i);
                if (within(here, 0, WORDS - 1)) {
                    words |= 1 << here;
                }
            }
            return words;
        }

        int sentenceFault(Republic republic) {
            for (int i = 0; i < size; i++) {
                if (i >= LONG || !republic.isOfSort(wordAt(i), sortAt(i))) {
                    return i;
                }
            }
            return size == SHORT || size == LONG ? NONE : size;
        }

        int leasesFault() {
            int stage = 0;
            for (int i = 0; i < size; i++) {
                int sign = signAt(i);
                if (!standsInLeases(sign, stage)) {
                    return i;
                }
                stage = sign == '.' ? 0 : (stage + 1) % 3;
            }
            return stage == 0 ? NONE : size;
        }

        private static boolean standsInLeases(int sign, int stage) {
            if (stage == 0) {
                return within(sign, '0', '3') || sign == '.';
            }
            if (stage == 1) {
                return within(sign, 'a', 'h');
            }
            return sign == '+' || sign == '-' || sign == '^' || sign == 'v';
        }
    }

    /** All that an IMAGE keeps: the WORDS, FAR, CAP, DRIFT, DAYS, the LIST, the SIGHTS. */
    private static final class Republic {
        private int there;
        private final int[] sort = new int[WORDS];
        private final int[] meaning = new int[WORDS];
        private final int[] rhyme = new int[WORDS];
        private final int[] rent = new int[WORDS];
        private final int[] holder = new int[WORDS];
        private final int[] nextRent = new int[WORDS];
        private final int[] apart = new int[MEANINGS * MEANINGS];
        private int cap = FIRST_CAP;
        private int drift = FIRST_DRIFT;
        private int days;
        private final int[] list = new int[MOST_LISTED];
        private int listed;
        private final int[] sightFirm = new int[MOST_SIGHTS];
        private final int[] sightSet = new int[MOST_SIGHTS];
        private int sights;

        Republic() {
            for (int i = 0; i < MEANINGS * MEANINGS; i++) {
                apart[i] = i / MEANINGS == i % MEANINGS ? 0 : 1;
            }
        }

        void copy(Republic other) {
            there = other.there;
            System.arraycopy(other.sort, 0, sort, 0, WORDS);
            System.arraycopy(other.meaning, 0, meaning, 0, WORDS);
            System.arraycopy(other.rhyme, 0, rhyme, 0, WORDS);
            System.arraycopy(other.rent, 0, rent, 0, WORDS);
            System.arraycopy(other.holder, 0, holder, 0, WORDS);
            System.arraycopy(other.apart, 0, apart, 0, MEANINGS * MEANINGS);
            cap = other.cap;
            drift = other.drift;
            days = other.days;
            System.arraycopy(other.list, 0, list, 0, MOST_LISTED);
            listed = other.listed;
            System.arraycopy(other.sightFirm, 0, sightFirm, 0, MOST_SIGHTS);
            System.arraycopy(other.sightSet, 0, sightSet, 0, MOST_SIGHTS);
            sights = other.sights;
        }

        // -- WORDS

        int words() {
            return there;
        }

        boolean has(int word) {
            return word >= 0 && word < WORDS && (there & 1 << word) != 0;
        }

        void put(int word, int itsSort, int itsMeaning, int itsRhyme, int itsRent) {
            if (word >= 0 && word < WORDS) {
                there |= 1 << word;
                sort[word] = itsSort;
                meaning[word] = itsMeaning;
                rhyme[word] = itsRhyme;
                rent[word] = itsRent;
                holder[word] = NOBODY;
            }
        }

        void drop(int word) {
            if (has(word)) {
                there &= ~(1 << word);
            }
        }

        boolean isOfSort(int word, int itsSort) {
            return word >= 0 && word < WORDS && (there & 1 << word) != 0 && sort[word] == itsSort;
        }

        int sortOf(int word) {
            return has(word) ? sort[word] : NONE;
        }

        int meaningOf(int word) {
            return has(word) ? meaning[word] : NONE;
        }

        int rhymeOf(int word) {
            return has(word) ? rhyme[word] : NONE;
        }

        int rentOf(int word) {
            return has(word) ? rent[word] : 0;
        }

        int holderOf(int word) {
            return has(word) ? holder[word] : NOBODY;
        }

        int property(int word, int what) {
            if (what == 0) {
                return rentOf(word);
            }
            return what == 1 ? holderOf(word) : meaningOf(word);
        }

        /** The first WORD of a SORT from a letter on; WORDS, if there is none. */
        int firstOfSort(int itsSort, int from) {
            for (int word = from; word < WORDS; word++) {
                if (isOfSort(word, itsSort)) {
                    return word;
                }
            }
            return WORDS;
        }

        int wordsOfSort(int itsSort) {
            int words = 0;
            for (int word = 0; word < WORDS; word++) {
                if (isOfSort(word, itsSort)) {
                    words |= 1 << word;
                }
            }
            return words;
        }

        /** SENTENCES of 3 and of 5 WORDS are counted by the WORDS that can stand at each place. */
        int sentencesWithout(int words) {
            int nouns = Integer.bitCount(wordsOfSort(NOUN) & ~words);
            int verbs = Integer.bitCount(wordsOfSort(VERB) & ~words);
            int joiners = Integer.bitCount(wordsOfSort(JOINER) & ~words);
            return nouns * verbs * nouns * (1 + joiners * nouns);
        }

        boolean areRivals(int word, int other) {
            return sortOf(word) == sortOf(other) && isFirm(holderOf(word)) && isFirm(holderOf(other))
                    && holderOf(word) != holderOf(other);
        }

        // -- FAR

        int between(int one, int other) {
            boolean both = one >= 0 && one < MEANINGS && other >= 0 && other < MEANINGS;
            return both ? apart[one * MEANINGS + other] : 0;
        }

        void part(int one, int other, int v) {
            if (isMeaning(one) && isMeaning(other)) {
                apart[one * MEANINGS + other] = v;
                apart[other * MEANINGS + one] = v;
            }
        }

        int betweenWords(int word, int other) {
            return has(word) && has(other) ? between(meaning[word], meaning[other]) : 0;
        }

        // -- RENTS

        /** Those of some WORDS that cost a speaker something. */
        int costing(int words, int speaker) {
            int owed = 0;
            for (int word = 0; word < WORDS; word++) {
                boolean theirs = holder[word] != NOBODY && holder[word] != speaker;
                if ((words & there & 1 << word) != 0 && theirs && rent[word] > 0) {
                    owed |= 1 << word;
                }
            }
            return owed;
        }

        int allRents() {
            int sum = 0;
            for (int word = 0; word < WORDS; word++) {
                sum += rentOf(word);
            }
            return sum;
        }

        /** All RENTS as one number: each is below 128, and eight of them leave a long room. */
        long rentsAsOne() {
            long all = 0;
            for (int word = 0; word < WORDS; word++) {
                all = all * 128 + rentOf(word);
            }
            return all;
        }

        // -- ACTS and DAYS

        /** Why an ACT can not be: the least reason; 0, if it can be. */
        int reasonAgainst(int firm, int word, int act) {
            if (!has(word)) {
                return 1;
            }
            int owner = holder[word];
            if (owner != NOBODY && (act == '+' || owner != firm)) {
                return 2;
            }
            if (owner == NOBODY && act != '+') {
                return 3;
            }
            if (act == '^' && rent[word] >= TOP_RENT || act == 'v' && rent[word] <= 0) {
                return 4;
            }
            return 0;
        }

        void act(int firm, int word, int act) {
            if (!has(word)) {
                return;
            }
            if (act == '+') {
                holder[word] = firm;
            } else if (act == '-') {
                holder[word] = NOBODY;
            } else {
                rent[word] += act == '^' ? 1 : -1;
            }
        }

        void passDay() {
            moveRents();
            days++;
            // DRIFT is never 0; a divisor is looked at all the same.
            if (drift > 0 && days % drift == 0) {
                driftWords();
            }
        }

        /** All RENTS go at once, so the new ones wait in a row of their own. */
        void moveRents() {
            for (int word = 0; word < WORDS; word++) {
                int today = rent[word];
                if (!has(word) || holder[word] == NOBODY) {
                    nextRent[word] = today;
                } else if (isUndercut(word)) {
                    nextRent[word] = today > 0 ? today - 1 : 0;
                } else {
                    nextRent[word] = today < cap ? today + 1 : today;
                }
            }
            System.arraycopy(nextRent, 0, rent, 0, WORDS);
        }

        private boolean isUndercut(int word) {
            if (!has(word)) {
                return false;
            }
            for (int other = 0; other < WORDS; other++) {
                if ((there & 1 << other) != 0 && sort[other] == sort[word] && holder[other] != holder[word]) {
                    int cost = holder[other] == NOBODY ? 0 : rent[other];
                    if (cost < rent[word] && between(meaning[word], meaning[other]) < 2) {
                        return true;
                    }
                }
            }
            return false;
        }

        private void driftWords() {
            for (int word = 0; word < WORDS; word++) {
                if (has(word) && holder[word] == NOBODY) {
                    meaning[word] = (meaning[word] + 1) % MEANINGS;
                }
            }
        }

        // -- the LIST

        boolean enlist(int words) {
            if (listed < 0 || listed >= MOST_LISTED) {
                return false;
            }
            list[listed] = words;
            listed++;
            return true;
        }

        /** Whether each of the LIST has one of these WORDS. */
        boolean meetsList(int words) {
            for (int i = 0; i < listed && i < MOST_LISTED; i++) {
                if ((list[i] & words) == 0) {
                    return false;
                }
            }
            return true;
        }

        /** Whether one of the LIST has none but these WORDS. */
        boolean listAllows(int words) {
            for (int i = 0; i < listed && i < MOST_LISTED; i++) {
                if ((list[i] & ~words) == 0) {
                    return true;
                }
            }
            return false;
        }

        // -- SIGHTS

        boolean addSight(int firm, int words) {
            if (sights < 0 || sights >= MOST_SIGHTS) {
                return false;
            }
            sightFirm[sights] = firm;
            sightSet[sights] = words;
            sights++;
            return true;
        }

        int firmSeen(int sight) {
            return sight >= 0 && sight < MOST_SIGHTS ? sightFirm[sight] : NONE;
        }

        int wordsSeen(int sight) {
            return sight >= 0 && sight < MOST_SIGHTS ? sightSet[sight] : NONE;
        }

        /** Whether a FIRM can have paid for just these WORDS: a SIGHT of it says so, or it has none. */
        boolean sightsAllow(int firm, int words) {
            boolean any = false;
            for (int i = 0; i < sights && i < MOST_SIGHTS; i++) {
                if (sightFirm[i] == firm) {
                    if (sightSet[i] == words) {
                        return true;
                    }
                    any = true;
                }
            }
            return !any;
        }
    }

    /** Goes through all SENTENCES of a length, by letters. */
    private static final class Walk {
        private final int[] words = new int[LONG];
        private int length;

        /** Goes to the first one; false, if there is none. */
        boolean start(Republic republic, int itsLength) {
            length = itsLength;
            for (int place = 0; place < LONG && place < length; place++) {
                words[place] = republic.firstOfSort(sortAt(place), 0);
                if (words[place] >= WORDS) {
                    return false;
                }
            }
            return true;
        }

        /** Goes to the next one; false, if there is none. */
        boolean step(Republic republic) {
            for (int place = LONG - 1; place >= 0; place--) {
                if (place < length) {
                    int next = republic.firstOfSort(sortAt(place), words[place] + 1);
                    if (next < WORDS) {
                        words[place] = next;
                        return true;
                    }
                    words[place] = republic.firstOfSort(sortAt(place), 0);
                }
            }
            return false;
        }

        int length() {
            return length;
        }

        int wordAt(int place) {
            return place >= 0 && place < length && place < LONG ? words[place] : NONE;
        }

        int words() {
            int all = 0;
            for (int place = 0; place < LONG && place < length; place++) {
                all |= 1 << words[place];
            }
            return all;
        }
    }

    /** What is paid for a SENTENCE, and to whom. */
    private static final class Till {
        private final int[] dearest = new int[RHYMES];

        /** What goes to one FIRM for WORDS that cost something; to all of them, if the FIRM is NOBODY. */
        int paid(Republic republic, int owed, int firm) {
            findDearest(republic, owed);
            int sum = 0;
            for (int word = 0; word < WORDS; word++) {
                if ((owed & 1 << word) != 0 && (firm == NOBODY || republic.holderOf(word) == firm)) {
                    sum += paidFor(republic, word);
                }
            }
            return sum;
        }

        /** Of WORDS that are as dear the least one stays, for it alone is paid whole. */
        private void findDearest(Republic republic, int owed) {
            for (int rhyme = 0; rhyme < RHYMES; rhyme++) {
                dearest[rhyme] = NONE;
            }
            for (int word = 0; word < WORDS; word++) {
                int rhyme = (owed & 1 << word) != 0 ? republic.rhymeOf(word) : NONE;
                if (isRhyme(rhyme)
                        && (dearest[rhyme] == NONE || republic.rentOf(word) > republic.rentOf(dearest[rhyme]))) {
                    dearest[rhyme] = word;
                }
            }
        }

        private int paidFor(Republic republic, int word) {
            int rhyme = republic.rhymeOf(word);
            boolean whole = isRhyme(rhyme) && dearest[rhyme] == word;
            return whole ? republic.rentOf(word) : republic.rentOf(word) / 2;
        }
    }

    /** Looks through SENTENCES, and holds what was found last. */
    private static final class Search {
        private final Walk walk = new Walk();
        private final Till till = new Till();
        private final int[] words = new int[LONG];
        private int length;
        private int count;
        private int longOnes;
        private int price;
        private int distance;
        private int place;
        private int letter;

        /** The WORD at a place of the SENTENCE that was found. */
        int wordAt(int itsPlace) {
            return itsPlace >= 0 && itsPlace < length && itsPlace < LONG ? words[itsPlace] : NONE;
        }

        private void clear() {
            length = 0;
            count = 0;
            longOnes = 0;
        }

        private boolean isFound() {
            return length > 0;
        }

        private void keepWords() {
            length = walk.length();
            for (int i = 0; i < LONG; i++) {
                words[i] = walk.wordAt(i);
            }
        }

        void nearest(Republic republic, Pad pad, int speaker, int slack) {
            clear();
            int dear = republic.costing(ALL_WORDS, speaker);
            boolean more = walk.start(republic, pad.size());
            for (int i = 0; more && i < MOST_SENTENCES; i++) {
                int away = distanceFrom(republic, pad);
                if (away <= slack) {
                    int cost = till.paid(republic, walk.words() & dear, NOBODY);
                    if (!isFound() || cost < price) {
                        keepWords();
                        price = cost;
                        distance = away;
                    }
                }
                more = walk.step(republic);
            }
        }

        private int distanceFrom(Republic republic, Pad pad) {
            int sum = 0;
            for (int i = 0; i < walk.length(); i++) {
                sum += republic.betweenWords(pad.wordAt(i), walk.wordAt(i));
            }
            return sum;
        }

        void affordable(Republic republic, int speaker, int pence) {
            clear();
            int dear = republic.costing(ALL_WORDS, speaker);
            countAffordable(republic, SHORT, dear, pence);
            int shortOnes = count;
            countAffordable(republic, LONG, dear, pence);
            longOnes = count - shortOnes;
        }

        private void countAffordable(Republic republic, int itsLength, int dear, int pence) {
            boolean more = walk.start(republic, itsLength);
            for (int i = 0; more && i < MOST_SENTENCES; i++) {
                if (till.paid(republic, walk.words() & dear, NOBODY) <= pence) {
                    countThis();
                }
                more = walk.step(republic);
            }
        }

        private void countThis() {
            count++;
            if (!isFound()) {
                keepWords();
            }
        }

        void misprinted(Republic republic, Pad pad, int speaker) {
            clear();
            int dear = republic.costing(ALL_WORDS, speaker);
            for (int i = 0; i < LONG && i < pad.size(); i++) {
                for (int word = 0; word < WORDS; word++) {
                    if (word != pad.wordAt(i) && republic.isOfSort(word, sortAt(i))) {
                        weighMisprint(i, word, till.paid(republic, pad.wordsBut(i, word) & dear, NOBODY));
                    }
                }
            }
        }

        private void weighMisprint(int itsPlace, int word, int cost) {
            if (count == 0 || cost < price) {
                place = itsPlace;
                letter = word;
                price = cost;
            }
            count++;
        }

        void spoken(Republic republic, int firm, int set) {
            clear();
            int dear = republic.costing(ALL_WORDS, firm);
            boolean more = walk.start(republic, SHORT);
            for (int i = 0; more && i < MOST_SENTENCES; i++) {
                if ((walk.words() & dear) == set) {
                    countThis();
                }
                more = walk.step(republic);
            }
        }
    }

    /** Plays LEASES that have no FAULT. */
    private static final class Clerk {
        private int acts;
        private int why;

        /** Whether all ACTS can be; how many were played ahead of the first that can not, and why it can not. */
        boolean play(Pad pad, Republic republic) {
            acts = 0;
            why = 0;
            int at = 0;
            for (int i = 0; i < SIGNS && at < pad.size(); i++) {
                if (pad.signAt(at) == '.') {
                    republic.passDay();
                    at++;
                } else {
                    if (!playAct(republic, pad.signAt(at) - '0', pad.wordAt(at + 1), pad.signAt(at + 2))) {
                        return false;
                    }
                    at += 3;
                }
                acts++;
            }
            return true;
        }

        private boolean playAct(Republic republic, int firm, int word, int act) {
            why = republic.reasonAgainst(firm, word, act);
            if (why != 0) {
                return false;
            }
            republic.act(firm, word, act);
            return true;
        }
    }

    /** Lets DAYS pass on a trial republic, to see where RENTS go. */
    private static final class Calendar {
        private final long[] rents = new long[TOP_DAYS + 1];
        private int until;
        private int between;
        private int taken;
        private int givenUp;

        /**
         * Goes on until RENTS come again, without drift: until which DAY, and how many DAYS lie between (0: never).
         * RENTS alone say what the next DAY does, so they have settled just if the two are a DAY apart.
         */
        void watchRents(Republic republic) {
            until = 0;
            between = 0;
            rents[0] = republic.rentsAsOne();
            for (int day = 1; day <= TOP_DAYS && between == 0; day++) {
                republic.moveRents();
                rents[day] = republic.rentsAsOne();
                until = day;
                between = daysSinceLike(day);
            }
        }

        private int daysSinceLike(int day) {
            for (int back = 1; back <= day && day <= TOP_DAYS; back++) {
                if (rents[day - back] == rents[day]) {
                    return back;
                }
            }
            return 0;
        }

        void drawDays(Republic republic, int seed, int m) {
            taken = 0;
            givenUp = 0;
            int x = seed;
            for (int day = 0; day < m; day++) {
                x = (75 * x + 74) % 65537;
                drawAct(republic, x % 4, x / 4 % 8);
                republic.passDay();
            }
        }

        private void drawAct(Republic republic, int firm, int word) {
            if (republic.reasonAgainst(firm, word, '+') == 0) {
                republic.act(firm, word, '+');
                taken++;
            } else if (republic.reasonAgainst(firm, word, '-') == 0) {
                republic.act(firm, word, '-');
                givenUp++;
            }
        }
    }

    /** The chance that a thing can be said, exactly: by all sets of letters that may be drawn. */
    private static final class Chance {
        private final long[] weight = new long[WORDS + 1];
        private int nouns;
        private int verbs;
        private long upper;
        private long lower;

        void reckon(Republic republic, int pad, int which, int tenths) {
            weigh(tenths);
            upper = 0;
            lower = power(TENTHS, WORDS);
            nouns = republic.wordsOfSort(NOUN);
            verbs = republic.wordsOfSort(VERB);
            for (int drawn = 0; drawn <= ALL_WORDS; drawn++) {
                // A WORD that is no more can not be had, whatever is drawn for it.
                int had = drawn & republic.words();
                upper += canSay(republic, pad, which, had) ? weightOf(Integer.bitCount(drawn)) : 0;
            }
            reduce();
        }

        private boolean canSay(Republic republic, int pad, int which, int had) {
            if (which == 0) {
                return (pad & ~had) == 0;
            }
            if (which == 1) {
                return (nouns & had) != 0 && (verbs & had) != 0;
            }
            return republic.listAllows(had);
        }

        private long weightOf(int size) {
            return size >= 0 && size <= WORDS ? weight[size] : 0;
        }

        /** By how many letters are drawn: the chance of one such set, in parts of ten to the eighth. */
        private void weigh(int tenths) {
            for (int size = 0; size <= WORDS; size++) {
                weight[size] = power(tenths, size) * power(TENTHS - tenths, WORDS - size);
            }
        }

        private static long power(int base, int times) {
            long product = 1;
            for (int i = 0; i < times; i++) {
                product *= base;
            }
            return product;
        }

        private void reduce() {
            long a = lower;
            long b = upper;
            // Euclid's steps for numbers so small stay far below a hundred.
            for (int i = 0; i < 100 && b != 0; i++) {
                long left = a % b;
                a = b;
                b = left;
            }
            if (a > 0) {
                upper /= a;
                lower /= a;
            }
        }
    }

    /** What two FIRMS would ask for WORDS of one SORT; it hangs on nothing but the buyers. */
    private static final class Rivals {
        /** How many pairs are at rest (i is -1), or the i-th of them. */
        static int restOrCount(int i) {
            int count = 0;
            for (int pair = 0; pair < 100; pair++) {
                if (isAtRest(pair / 10, pair % 10)) {
                    if (count == i) {
                        return pair;
                    }
                    count++;
                }
            }
            return i == -1 ? count : NONE;
        }

        private static boolean isAtRest(int first, int second) {
            int firstHas = takings(first, second, true);
            int secondHas = takings(second, first, false);
            for (int other = 0; other <= TOP_ASKED; other++) {
                if (takings(other, second, true) > firstHas || takings(other, first, false) > secondHas) {
                    return false;
                }
            }
            return true;
        }

        private static int takings(int own, int rival, boolean isFirst) {
            if (own > rival) {
                return 0;
            }
            // Buyer b pays up to b, and the least b is 1: nobody is lost by asking 0.
            int buyers = TOP_ASKED + 1 - Math.max(1, own);
            if (own == rival) {
                buyers = isFirst ? buyers / 2 : buyers - buyers / 2;
            }
            return own * buyers;
        }
    }
}
