/**
 * A village in which every word loses a letter each time somebody says it.
 * What each call answers is told by the promises of ../shared/DOC.md; the names in capitals there are the names here.
 */
public final class WornWords {
    public static final int NONE = -1;

    private static final int MOST_MEANINGS = 12;
    private static final int MOST_WORDS = 12;
    private static final int MOST_SPEAKERS = 4;
    private static final int MOST_LETTERS = 8;
    private static final int MOST_RULES = 12;
    private static final int MOST_ASKED = 24;
    private static final int MOST_NESTED = 6;
    private static final int MOST_TRAYS = 4;
    private static final int MOST_HELD = 60;
    private static final int MOST_TAPE = 900;
    private static final int MOST_LAW = 300;
    private static final int MOST_MARKS = 3;
    private static final int MOST_TOLD = 5;
    private static final int MOST_HEARD = 6;
    private static final int CHAIN_FORMS = 40;
    private static final int LONGEST_LIFE = 40;
    private static final int FARTHEST_TWIN = 40;
    private static final int LONGEST_LASTING = 200;
    private static final int LAST_DAY = 999;
    private static final int LAST_COUNTED_DAY = 99;
    private static final int MOST_COMPARED = 99;
    private static final int MOST_PASSED = 99;
    private static final int LAST_SEED = 9999;
    private static final int MOST_SEEDS = 20;
    private static final int MOST_GOSSIP = 60;

    private static final int FINE = 0;
    private static final int WRONG_NUMBER = 1;
    private static final int TRAY_MISSING = 2;
    private static final int NO_PLACE = 3;
    private static final int TOO_MANY = 4;
    private static final int WRONG_IN_TRAY = 5;
    private static final int NONE_SUCH = 6;
    private static final int CANNOT_BE = 7;
    private static final int UNLIKE_SORTS = 8;
    private static final int FAULTY = 9;

    private final Tray[] trays = new Tray[MOST_TRAYS];
    private final byte[] tape = new byte[MOST_TAPE];
    private final Text text = new Text(tape);
    private final VillageText villageText = new VillageText(text);
    private final LawText lawText = new LawText(text);
    private final Village here = new Village();
    private final Village spare = new Village();
    private final Village[] marks = new Village[MOST_MARKS];
    private final Stories stories = new Stories();
    private final Hearing hearing = new Hearing();
    private final Gossip latestGossip = new Gossip();
    private final Gossip oddsGossip = new Gossip();
    private int taped = 0;
    private int marked = 0;
    private int latestStatus = FINE;
    private int faultKind = NONE;
    private int faultPlace = NONE;
    private boolean gossipTold = false;
    private long fractionTop = 0;
    private long fractionBottom = 1;

    public WornWords() {
        for (int k = 0; k < MOST_TRAYS; k++) {
            trays[k] = new Tray();
        }
        for (int k = 0; k < MOST_MARKS; k++) {
            marks[k] = new Village();
        }
    }

    public int status() {
        return latestStatus;
    }

    public long top() {
        return fractionTop;
    }

    public long bottom() {
        return fractionBottom;
    }

    // ---- TRAYS

    public boolean tray(int tray, int sort, int many) {
        if (!isTray(tray) || sort < 0 || sort > Tray.SORT_64 || many < 0 || many > MOST_HELD) {
            return refuse(WRONG_NUMBER);
        }
        trays[tray].lay(sort, many);
        return allow();
    }

    public boolean write(int tray, int place, long v) {
        int wrong = wrongPlace(tray, place);
        if (wrong != FINE) {
            return refuse(wrong);
        }
        trays[tray].put(place, v);
        return allow();
    }

    public long read(int tray, int place) {
        int wrong = wrongPlace(tray, place);
        if (wrong != FINE) {
            return fail(wrong);
        }
        latestStatus = FINE;
        return trays[tray].at(place);
    }

    public boolean pour(int from, int place, int to, int at, int many) {
        if (!isTray(from) || !isTray(to) || place < 0 || at < 0 || many < 0) {
            return refuse(WRONG_NUMBER);
        }
        Tray giver = trays[from];
        Tray taker = trays[to];
        if (giver.isMissing() || taker.isMissing()) {
            return refuse(TRAY_MISSING);
        }
        if (giver.sort != taker.sort) {
            return refuse(UNLIKE_SORTS);
        }
        if (!giver.hasRun(place, many) || !taker.hasRun(at, many)) {
            return refuse(NO_PLACE);
        }
        System.arraycopy(giver.row, place, taker.row, at, many);
        return allow();
    }

    // ---- texts

    public int feed(int a, int b, int c, int d, int e) {
        if (taped + 20 > MOST_TAPE) {
            return NONE;
        }
        append(a);
        append(b);
        append(c);
        append(d);
        append(e);
        return taped;
    }

    public int village(int n) {
        if (n < 0 || n > taped) {
            return fail(WRONG_NUMBER);
        }
        text.open(n);
        taped = 0;
        boolean taken = villageText.readAll(spare);
        keepFault();
        if (!taken) {
            return fail(FAULTY);
        }
        here.copyFrom(spare);
        return give(here.many);
    }

    public int law(int n) {
        if (n < 0 || n > taped || n > MOST_LAW) {
            return fail(WRONG_NUMBER);
        }
        text.open(n);
        taped = 0;
        boolean taken = lawText.readAll(spare.law);
        keepFault();
        if (!taken) {
            return fail(FAULTY);
        }
        here.law.copyFrom(spare.law);
        return give(here.law.rules);
    }

    public int fault(int what) {
        if (what == 0) {
            return faultKind;
        }
        return what == 1 ? faultPlace : NONE;
    }

    public int told(int what) {
        switch (what) {
            case 0:
                return give(here.meanings);
            case 1:
                return give(here.many);
            case 2:
                return give(here.speakers);
            case 3:
                return give(here.law.rules);
            case 4:
                return give(here.day);
            case 5:
                return give(here.countLiving());
            default:
                return fail(WRONG_NUMBER);
        }
    }

    // ---- words

    public long form(int word) {
        if (!here.isWord(word)) {
            return fail(WRONG_NUMBER);
        }
        latestStatus = FINE;
        return here.words[word].form;
    }

    public int word(int word, int what) {
        if (!here.isWord(word)) {
            return fail(WRONG_NUMBER);
        }
        Word asked = here.words[word];
        switch (what) {
            case 0:
                return give(asked.size);
            case 1:
                return give(asked.meanings);
            case 2:
                return give(asked.said);
            case 3:
                return asked.latest == NONE ? fail(NONE_SUCH) : give(asked.latest);
            case 4:
                return give(asked.lostMany);
            case 5:
                return give(asked.firstSize);
            default:
                return fail(WRONG_NUMBER);
        }
    }

    public int words(int meaning) {
        if (!here.isMeaning(meaning)) {
            return fail(WRONG_NUMBER);
        }
        return give(here.wordsWith(meaning));
    }

    public int loses(int word) {
        int wrong = wrongWord(word);
        if (wrong != FINE) {
            return fail(wrong);
        }
        return give(here.placeLost(word));
    }

    public long chain(int word, int k) {
        int wrong = k < 0 || k >= CHAIN_FORMS ? WRONG_NUMBER : wrongWord(word);
        if (wrong != FINE) {
            return fail(wrong);
        }
        latestStatus = FINE;
        here.tryWord(word);
        for (int said = 0; said < k; said++) {
            here.wearTried(here.day);
        }
        return here.tried.form;
    }

    public int life(int word) {
        int wrong = wrongWord(word);
        if (wrong != FINE) {
            return fail(wrong);
        }
        here.tryWord(word);
        int life = here.lifeOfTried();
        return life > LONGEST_LIFE ? fail(CANNOT_BE) : give(life);
    }

    public int twin(int word, int what) {
        int wrong = what < 0 || what > 1 ? WRONG_NUMBER : wrongWord(word);
        if (wrong != FINE) {
            return fail(wrong);
        }
        here.tryWord(word);
        // A TWIN may come behind the 40th saying, one more than chain() can be asked for.
        for (int said = 1; said <= FARTHEST_TWIN; said++) {
            here.wearTried(here.day);
            int other = here.alikeTo(here.tried.form, word);
            if (other != NONE) {
                return give(what == 0 ? other : said);
            }
        }
        return fail(NONE_SUCH);
    }

    public int common(int a, int b) {
        int wrong = wrongPair(a, b);
        if (wrong != FINE) {
            return fail(wrong);
        }
        return give(here.commonOf(here.words[a], here.words[b]));
    }

    public int rhymes(int word, int n) {
        int wrong = n < 1 || n > MOST_LETTERS ? WRONG_NUMBER : wrongWord(word);
        if (wrong != FINE) {
            return fail(wrong);
        }
        if (here.words[word].size < n) {
            return fail(CANNOT_BE);
        }
        return give(here.rhymesOf(word, n));
    }

    public int lone() {
        return give(here.meaningsOfOne());
    }

    public int mute() {
        return give(here.meaningsOfNone());
    }

    public int lasts(int meaning) {
        if (!here.isMeaning(meaning)) {
            return fail(WRONG_NUMBER);
        }
        spare.copyFrom(here);
        return give(spare.wearOut(meaning));
    }

    public int spread(int word) {
        if (!here.isWord(word)) {
            return fail(WRONG_NUMBER);
        }
        return give(here.formsKnown(word));
    }

    public int wintry() {
        spare.copyFrom(here);
        return give(spare.giveBack());
    }

    // ---- sayings

    public int say(int word) {
        int wrong = wrongWord(word);
        if (wrong != FINE) {
            return fail(wrong);
        }
        here.sayWord(word);
        return give(here.words[word].size);
    }

    public int tell(int speaker, int word, int hearers) {
        int wrong = wrongWord(word);
        if (!here.isSpeaker(speaker) || !here.areOthers(speaker, hearers)) {
            wrong = WRONG_NUMBER;
        }
        if (wrong != FINE) {
            return fail(wrong);
        }
        return give(here.tellWord(speaker, word, hearers));
    }

    public int follows(int speaker, int word) {
        int wrong = here.isSpeaker(speaker) ? wrongWord(word) : WRONG_NUMBER;
        if (wrong != FINE) {
            return fail(wrong);
        }
        return give(here.understands(speaker, word) ? 1 : 0);
    }

    public long knows(int speaker, int word) {
        if (!here.isSpeaker(speaker) || !here.isWord(word)) {
            return fail(WRONG_NUMBER);
        }
        latestStatus = FINE;
        return here.knownForm(speaker, word);
    }

    public int pass(int days) {
        if (days < 1 || days > MOST_PASSED) {
            return fail(WRONG_NUMBER);
        }
        if (here.day + days > LAST_DAY) {
            return fail(TOO_MANY);
        }
        here.day += days;
        return give(here.day);
    }

    public int winter() {
        return give(Integer.bitCount(here.giveBack()));
    }

    public int cut(int a, int i, int b, int j, int meaning) {
        int wrong = i < 1 || j < 1 || !here.isMeaning(meaning) ? WRONG_NUMBER : wrongCut(a, b);
        if (wrong != FINE) {
            return fail(wrong);
        }
        if (!here.canCut(a, i, b, j)) {
            return fail(CANNOT_BE);
        }
        return give(here.cutWord(a, i, b, j, meaning));
    }

    public int bestCut(int a, int b, int what) {
        int wrong = what < 0 || what > 2 ? WRONG_NUMBER : wrongCut(a, b);
        if (wrong != FINE) {
            return fail(wrong);
        }
        int bestI = 0;
        int bestJ = 0;
        int bestLife = 0;
        for (int i = 1; i < MOST_LETTERS; i++) {
            for (int j = 1; i + j <= MOST_LETTERS; j++) {
                int life = here.canCut(a, i, b, j) ? here.lifeOfCut(a, i, b, j) : 0;
                if (life > bestLife) {
                    bestLife = life;
                    bestI = i;
                    bestJ = j;
                }
            }
        }
        if (bestLife == 0) {
            return fail(CANNOT_BE);
        }
        if (what == 0) {
            return give(bestI);
        }
        return give(what == 1 ? bestJ : bestLife);
    }

    // ---- stories

    public int ways(int tray, int many) {
        int wrong = wrongStory(tray, many);
        if (wrong != FINE) {
            return fail(wrong);
        }
        return give(stories.countRows(here));
    }

    public int fewest(int tray, int many) {
        int wrong = wrongStory(tray, many);
        if (wrong != FINE) {
            return fail(wrong);
        }
        int letters = stories.fewestLetters(here);
        return letters == NONE ? fail(NONE_SUCH) : give(letters);
    }

    public int fewestAt(int k) {
        if (k < 0 || k >= stories.firstMany) {
            return fail(NONE_SUCH);
        }
        return give(stories.first[k]);
    }

    public int howFar(int tray, int many) {
        int wrong = wrongStory(tray, many);
        if (wrong != FINE) {
            return fail(wrong);
        }
        return give(stories.farthest(here));
    }

    public int cheap(int meaning) {
        if (!here.isMeaning(meaning)) {
            return fail(WRONG_NUMBER);
        }
        int word = here.cheapWord(meaning);
        return word == NONE ? fail(NONE_SUCH) : give(word);
    }

    public int story(int tray, int many) {
        int wrong = wrongStory(tray, many);
        if (wrong != FINE) {
            return fail(wrong);
        }
        spare.copyFrom(here);
        int letters = stories.tellCheaply(spare);
        if (letters == NONE) {
            return fail(NONE_SUCH);
        }
        here.copyFrom(spare);
        return give(letters);
    }

    public int readings(int tray, int many) {
        int wrong = wrongRow(tray, many, MOST_HEARD);
        if (wrong != FINE) {
            return fail(wrong);
        }
        if (!hearing.take(trays[tray], many)) {
            return fail(WRONG_IN_TRAY);
        }
        return give(hearing.countRows(here));
    }

    // ---- GOSSIP

    public int gossip(int seed, int days) {
        int wrong = wrongGossip(seed, days);
        if (wrong != FINE) {
            return fail(wrong);
        }
        spare.copyFrom(here);
        latestGossip.run(spare, seed, days);
        gossipTold = true;
        return give(latestGossip.understood);
    }

    public int gossiped(int what) {
        if (what < 0 || what > 3) {
            return fail(WRONG_NUMBER);
        }
        if (!gossipTold) {
            return fail(NONE_SUCH);
        }
        switch (what) {
            case 0:
                return give(latestGossip.sayings);
            case 1:
                return give(latestGossip.heard);
            case 2:
                return give(latestGossip.living);
            default:
                return give(latestGossip.letters);
        }
    }

    public boolean odds(int seed, int many, int days) {
        int wrong = many < 1 || many > MOST_SEEDS || seed > LAST_SEED + 1 - many ? WRONG_NUMBER : wrongGossip(seed, days);
        if (wrong != FINE) {
            return refuse(wrong);
        }
        int understood = 0;
        int heard = 0;
        for (int k = 0; k < many; k++) {
            spare.copyFrom(here);
            oddsGossip.run(spare, seed + k, days);
            understood += oddsGossip.understood;
            heard += oddsGossip.heard;
        }
        if (heard == 0) {
            return refuse(NONE_SUCH);
        }
        tellFraction(understood, heard);
        return allow();
    }

    // ---- MARKS

    public int mark() {
        if (marked >= MOST_MARKS) {
            return fail(TOO_MANY);
        }
        marks[marked].copyFrom(here);
        marked++;
        return give(marked);
    }

    public int back() {
        if (marked < 1 || marked > MOST_MARKS) {
            return fail(NONE_SUCH);
        }
        marked--;
        here.copyFrom(marks[marked]);
        return give(marked);
    }

    private int fail(int status) {
        latestStatus = status;
        return NONE;
    }

    private int give(int answer) {
        latestStatus = FINE;
        return answer;
    }

    private boolean refuse(int status) {
        latestStatus = status;
        return false;
    }

    private boolean allow() {
        latestStatus = FINE;
        return true;
    }

    private static boolean isTray(int tray) {
        return tray >= 0 && tray < MOST_TRAYS;
    }

    private int wrongPlace(int tray, int place) {
        if (!isTray(tray)) {
            return WRONG_NUMBER;
        }
        if (trays[tray].isMissing()) {
            return TRAY_MISSING;
        }
        return trays[tray].hasRun(place, 1) ? FINE : NO_PLACE;
    }

    private int wrongRow(int tray, int many, int most) {
        if (!isTray(tray) || many < 1 || many > most) {
            return WRONG_NUMBER;
        }
        if (trays[tray].isMissing()) {
            return TRAY_MISSING;
        }
        return trays[tray].hasRun(0, many) ? FINE : NO_PLACE;
    }

    private int wrongStory(int tray, int many) {
        int wrong = wrongRow(tray, many, MOST_TOLD);
        if (wrong != FINE) {
            return wrong;
        }
        return stories.take(trays[tray], many, here.meanings) ? FINE : WRONG_IN_TRAY;
    }

    private int wrongWord(int word) {
        if (!here.isWord(word)) {
            return WRONG_NUMBER;
        }
        return here.words[word].isGone() ? NONE_SUCH : FINE;
    }

    private int wrongPair(int a, int b) {
        if (!here.isWord(a) || !here.isWord(b)) {
            return WRONG_NUMBER;
        }
        return here.words[a].isGone() || here.words[b].isGone() ? NONE_SUCH : FINE;
    }

    private int wrongCut(int a, int b) {
        int wrong = wrongPair(a, b);
        if (wrong != WRONG_NUMBER && here.countLiving() >= MOST_WORDS) {
            return TOO_MANY;
        }
        return wrong;
    }

    private int wrongGossip(int seed, int days) {
        if (seed < 0 || seed > LAST_SEED || days < 1 || days > MOST_GOSSIP) {
            return WRONG_NUMBER;
        }
        return here.speakers == 0 || here.many == 0 ? NONE_SUCH : FINE;
    }

    private void append(int four) {
        for (int shift = 24; shift >= 0; shift -= 8) {
            if (taped < MOST_TAPE) {
                tape[taped] = (byte) (four >> shift);
                taped++;
            }
        }
    }

    private void keepFault() {
        faultKind = text.faultKind;
        faultPlace = text.faultPlace;
    }

    private void tellFraction(int above, int below) {
        int divisor = below;
        int rest = above;
        // Euclid's rests at least halve every other time, so 64 rounds are more than enough for an int.
        for (int round = 0; round < 64 && rest != 0; round++) {
            int next = divisor % rest;
            divisor = rest;
            rest = next;
        }
        if (divisor > 0) {
            fractionTop = above / divisor;
            fractionBottom = below / divisor;
        }
    }

    /** A row of numbers of one sort, or MISSING. */
    private static final class Tray {
        static final int SORT_8 = 0;
        static final int SORT_16 = 1;
        static final int SORT_32 = 2;
        static final int SORT_64 = 3;

        final long[] row = new long[MOST_HELD];
        int sort = NONE;
        int size = 0;

        boolean isMissing() {
            return sort == NONE;
        }

        void lay(int newSort, int many) {
            sort = newSort;
            size = Math.max(0, Math.min(many, MOST_HELD));
            for (int k = 0; k < MOST_HELD; k++) {
                row[k] = 0;
            }
        }

        boolean hasRun(int place, int many) {
            return place >= 0 && many >= 0 && many <= size && place <= size - many;
        }

        long at(int place) {
            return hasRun(place, 1) ? row[place] : 0;
        }

        void put(int place, long v) {
            if (hasRun(place, 1)) {
                row[place] = cutToSort(v);
            }
        }

        private long cutToSort(long v) {
            switch (sort) {
                case SORT_8:
                    return (byte) v;
                case SORT_16:
                    return (short) v;
                case SORT_32:
                    return (int) v;
                default:
                    return v;
            }
        }
    }

    /** Functions of FORMS: letters as a number, five bits each, the first one highest. */
    private static final class Letters {
        static final int BITS = 5;
        static final int MASK = 31;
        static final int LETTERS = 32;
        static final int VOWELS = 1 << 1 | 1 << 5 | 1 << 9 | 1 << 15 | 1 << 21;

        static boolean isVowel(int letter) {
            return letter > 0 && letter <= MASK && (VOWELS >> letter & 1) == 1;
        }

        static int sizeOf(long form) {
            int size = 0;
            for (long rest = form; rest > 0 && size < MOST_LETTERS; rest >>= BITS) {
                size++;
            }
            return size;
        }

        static int letterAt(long form, int size, int place) {
            if (place < 0 || place >= size) {
                return 0;
            }
            return (int) (form >> BITS * (size - 1 - place)) & MASK;
        }

        static long firstOf(long form, int size, int many) {
            return form >> BITS * Math.max(0, size - many);
        }

        static long lastOf(long form, int many) {
            return form & (1L << BITS * many) - 1;
        }

        static long join(long ahead, long behind, int behindSize) {
            return ahead << BITS * behindSize | behind;
        }

        static long without(long form, int size, int place) {
            int behind = size - 1 - place;
            return join(firstOf(form, size, place), lastOf(form, behind), behind);
        }

        static long with(long form, int size, int place, int letter) {
            int behind = size - place;
            return join(firstOf(form, size, place) << BITS | letter, lastOf(form, behind), behind);
        }

        /** Whether the heard FORM is the known one without no, one or two letters. */
        static boolean isLeftOf(long heard, long known) {
            int heardSize = sizeOf(heard);
            int knownSize = sizeOf(known);
            if (heardSize > knownSize || heardSize < knownSize - 2) {
                return false;
            }
            int found = 0;
            for (int place = 0; place < knownSize; place++) {
                if (found < heardSize && letterAt(known, knownSize, place) == letterAt(heard, heardSize, found)) {
                    found++;
                }
            }
            return found == heardSize;
        }
    }

    /** The TOKENS of the first bytes of the tape, one at a time, and the first FAULT among them. */
    private static final class Text {
        static final int END = 0;
        static final int WORD = 1;
        static final int NUMBER = 2;
        static final int SIGN = 3;
        static final int NO_TOKEN = 4;

        static final int FAULT_TOKEN = 1;
        static final int FAULT_STANDING = 2;
        static final int FAULT_NAME = 3;
        static final int FAULT_NUMBER = 4;
        static final int FAULT_AGAIN = 5;
        static final int FAULT_MANY = 6;
        static final int FAULT_NESTED = 7;

        /** The WORDS that are no NAMES; the keys below are their places here. */
        private static final String RESERVED = "meaning word means speaker soft if drop or and not shared begins ends has vowel size said day idle first last hard middle none ";
        static final int KEY_MEANING = 0;
        static final int KEY_WORD = 1;
        static final int KEY_MEANS = 2;
        static final int KEY_SPEAKER = 3;
        static final int KEY_SOFT = 4;
        static final int KEY_IF = 5;
        static final int KEY_DROP = 6;
        static final int KEY_OR = 7;
        static final int KEY_AND = 8;
        static final int KEY_NOT = 9;
        static final int KEY_SHARED = 10;
        static final int KEY_BEGINS = 11;
        static final int KEY_ENDS = 12;
        static final int KEY_HAS = 13;
        static final int KEY_VOWEL = 14;
        static final int KEY_SIZE = 15;
        static final int KEY_SAID = 16;
        static final int KEY_DAY = 17;
        static final int KEY_IDLE = 18;
        static final int KEY_FIRST = 19;
        static final int KEY_LAST = 20;
        static final int KEY_HARD = 21;
        static final int KEY_MIDDLE = 22;
        static final int KEY_NONE = 23;

        private static final int MOST_DIGITS = 4;
        private static final String SIGNS = ";<>=()";

        private final byte[] bytes;
        private int end = 0;
        private int next = 0;
        int kind = END;
        int at = 0;
        int size = 0;
        /** Of a WORD of at most 8 letters its LETTERS as a number, of a NUMBER that number, of a SIGN its byte. */
        long value = 0;
        /** Of a WORD which of those that are no NAMES it is, else NONE. */
        int key = NONE;
        int faultKind = 0;
        int faultPlace = NONE;

        Text(byte[] bytes) {
            this.bytes = bytes;
        }

        void open(int n) {
            end = n;
            next = 0;
            faultKind = 0;
            faultPlace = NONE;
            advance();
        }

        boolean isFine() {
            return faultKind == 0;
        }

        /** Only the first FAULT counts, so whoever reads may go on to blame behind one. */
        void blame(int fault) {
            if (faultKind == 0) {
                faultKind = fault;
                faultPlace = at;
            }
        }

        /** The TOKEN here can't stand here, if it is one at all. */
        void blameStanding() {
            blame(kind == NO_TOKEN ? FAULT_TOKEN : FAULT_STANDING);
        }

        void advance() {
            while (next < end && (byteAt(next) == 10 || byteAt(next) == 32)) {
                next++;
            }
            at = next;
            value = 0;
            key = NONE;
            int first = byteAt(at);
            if (first == NONE) {
                kind = END;
            } else if (isSmall(first)) {
                kind = WORD;
                while (next < end && isSmall(byteAt(next))) {
                    value = value * 32 + byteAt(next) - 'a' + 1;
                    next++;
                }
                key = next - at <= MOST_LETTERS ? keyOf(value) : NONE;
            } else if (isDigit(first)) {
                while (next < end && isDigit(byteAt(next))) {
                    value = value * 10 + byteAt(next) - '0';
                    next++;
                }
                kind = next - at <= MOST_DIGITS ? NUMBER : NO_TOKEN;
            } else {
                kind = SIGNS.indexOf((char) first) >= 0 ? SIGN : NO_TOKEN;
                value = first;
                next++;
            }
            size = next - at;
        }

        boolean isSign(char wanted) {
            return kind == SIGN && value == wanted;
        }

        /** Whether a WORD of 1 to 8 letters stands here. */
        boolean isShortWord() {
            return kind == WORD && size <= MOST_LETTERS;
        }

        boolean isName() {
            return isShortWord() && key == NONE;
        }

        /** Steps behind a WORD that must stand here. */
        void passKey(int wanted) {
            if (isFine() && key == wanted) {
                advance();
            } else {
                blameStanding();
            }
        }

        /** Steps behind a SIGN that must stand here. */
        void passSign(char wanted) {
            if (isFine() && isSign(wanted)) {
                advance();
            } else {
                blameStanding();
            }
        }

        /** The letter at a place of the WORD here, a being 1. */
        int letter(int place) {
            return kind == WORD && place >= 0 && place < size ? byteAt(at + place) - 'a' + 1 : 0;
        }

        private int byteAt(int place) {
            return place >= 0 && place < end && place < bytes.length ? bytes[place] & 255 : NONE;
        }

        private static boolean isSmall(int sign) {
            return sign >= 'a' && sign <= 'z';
        }

        private static boolean isDigit(int sign) {
            return sign >= '0' && sign <= '9';
        }

        private static int keyOf(long letters) {
            int found = 0;
            long ahead = 0;
            for (int k = 0; k < RESERVED.length(); k++) {
                char sign = RESERVED.charAt(k);
                if (sign != ' ') {
                    ahead = ahead * 32 + sign - 'a' + 1;
                } else if (ahead == letters) {
                    return found;
                } else {
                    ahead = 0;
                    found++;
                }
            }
            return NONE;
        }
    }

    /** Reads a VILLAGE from its text. */
    private static final class VillageText {
        private final Text text;
        private final long[] meaningNames = new long[MOST_MEANINGS];
        private final long[] speakerNames = new long[MOST_SPEAKERS];
        private boolean softTold = false;

        VillageText(Text text) {
            this.text = text;
        }

        boolean readAll(Village into) {
            into.clear();
            softTold = false;
            // Each PART takes bytes of the text, so there can't be more of them than bytes.
            for (int part = 0; part < MOST_TAPE && text.isFine() && text.kind != Text.END; part++) {
                readPart(into);
                text.passSign(';');
            }
            into.teachAllWords();
            return text.isFine();
        }

        private void readPart(Village into) {
            switch (text.key) {
                case Text.KEY_MEANING:
                    readMeaning(into);
                    break;
                case Text.KEY_WORD:
                    readThingSaid(into);
                    break;
                case Text.KEY_SPEAKER:
                    readSpeaker(into);
                    break;
                case Text.KEY_SOFT:
                    readSoft(into);
                    break;
                default:
                    text.blameStanding();
                    break;
            }
        }

        private void readMeaning(Village into) {
            if (into.meanings >= MOST_MEANINGS) {
                text.blame(Text.FAULT_MANY);
                return;
            }
            text.advance();
            if (isNewName(into)) {
                meaningNames[into.meanings] = text.value;
                into.meanings++;
                text.advance();
            }
        }

        private void readSpeaker(Village into) {
            if (into.speakers >= MOST_SPEAKERS) {
                text.blame(Text.FAULT_MANY);
                return;
            }
            text.advance();
            if (isNewName(into)) {
                speakerNames[into.speakers] = text.value;
                into.speakers++;
                text.advance();
            }
        }

        private void readThingSaid(Village into) {
            if (into.many >= MOST_WORDS) {
                text.blame(Text.FAULT_MANY);
                return;
            }
            text.advance();
            if (!text.isShortWord()) {
                text.blameStanding();
                return;
            }
            if (into.alikeTo(text.value, NONE) != NONE) {
                text.blame(Text.FAULT_NAME);
                return;
            }
            long letters = text.value;
            int size = text.size;
            text.advance();
            text.passKey(Text.KEY_MEANS);
            int set = readMeanings(into);
            if (text.isFine()) {
                into.addWord(letters, size, set);
            }
        }

        private int readMeanings(Village into) {
            int set = 0;
            // Behind all MEANINGS there are, another NAME is a FAULT.
            for (int k = 0; k <= MOST_MEANINGS && text.isFine(); k++) {
                if (set != 0 && text.isSign(';')) {
                    return set;
                }
                int meaning = placeOf(meaningNames, into.meanings);
                if (!text.isName()) {
                    text.blameStanding();
                } else if (meaning == NONE) {
                    text.blame(Text.FAULT_NAME);
                } else if ((set >> meaning & 1) == 1) {
                    text.blame(Text.FAULT_AGAIN);
                } else {
                    set |= 1 << meaning;
                    text.advance();
                }
            }
            return set;
        }

        private void readSoft(Village into) {
            if (softTold) {
                text.blame(Text.FAULT_AGAIN);
                return;
            }
            softTold = true;
            text.advance();
            if (text.kind != Text.WORD) {
                text.blameStanding();
                return;
            }
            int seen = 0;
            for (int k = 0; k < text.size; k++) {
                int letter = text.letter(k);
                if ((seen >> letter & 1) == 1) {
                    text.blame(Text.FAULT_AGAIN);
                    return;
                }
                seen |= 1 << letter;
                into.soften(letter, k);
            }
            text.advance();
        }

        private boolean isNewName(Village into) {
            if (!text.isName()) {
                text.blameStanding();
            } else if (placeOf(meaningNames, into.meanings) != NONE || placeOf(speakerNames, into.speakers) != NONE) {
                text.blame(Text.FAULT_NAME);
            }
            return text.isFine();
        }

        /** Which one of the first names is the WORD here. */
        private int placeOf(long[] names, int many) {
            for (int k = 0; k < many && k < names.length; k++) {
                if (names[k] == text.value) {
                    return k;
                }
            }
            return NONE;
        }
    }

    /** Reads a LAW from its text. */
    private static final class LawText {
        private final Text text;
        private int asked = 0;

        LawText(Text text) {
            this.text = text;
        }

        boolean readAll(Law into) {
            into.clear();
            asked = 0;
            for (int rule = 0; rule <= MOST_RULES && text.isFine() && text.kind != Text.END; rule++) {
                if (text.key != Text.KEY_IF) {
                    text.blameStanding();
                } else if (into.rules >= MOST_RULES) {
                    text.blame(Text.FAULT_MANY);
                } else {
                    text.advance();
                    readEither(into, 0);
                    text.passKey(Text.KEY_DROP);
                    readWhich(into);
                    text.passSign(';');
                }
            }
            return text.isFine();
        }

        private void readEither(Law into, int depth) {
            readBoth(into, depth);
            for (int k = 0; k < MOST_LAW && text.isFine() && text.key == Text.KEY_OR; k++) {
                text.advance();
                readBoth(into, depth);
                into.emit(Law.OR, 0);
            }
        }

        private void readBoth(Law into, int depth) {
            readOne(into, depth);
            for (int k = 0; k < MOST_LAW && text.isFine() && text.key == Text.KEY_AND; k++) {
                text.advance();
                readOne(into, depth);
                into.emit(Law.AND, 0);
            }
        }

        /** The checks stand by the kinds of FAULTS, as of one TOKEN the least kind counts. */
        private void readOne(Law into, int depth) {
            if (!text.isFine()) {
                return;
            }
            int asks = askedHere();
            boolean turns = text.key == Text.KEY_NOT;
            boolean opens = text.isSign('(');
            if (asks == NONE && !turns && !opens) {
                text.blameStanding();
            } else if (asks != NONE && asked >= MOST_ASKED) {
                text.blame(Text.FAULT_MANY);
            } else if (depth >= MOST_NESTED) {
                text.blame(Text.FAULT_NESTED);
            } else if (turns) {
                text.advance();
                readOne(into, depth + 1);
                into.emit(Law.NOT, 0);
            } else if (opens) {
                text.advance();
                readEither(into, depth + 1);
                text.passSign(')');
            } else {
                asked++;
                text.advance();
                readAsked(into, asks);
            }
        }

        /** What stands behind shared, begins, ends, has or a CASE. */
        private void readAsked(Law into, int asks) {
            if (asks == Law.SHARED) {
                into.emit(asks, 0);
                return;
            }
            if (asks == Law.BEGINS || asks == Law.ENDS || asks == Law.HAS) {
                if (text.key == Text.KEY_VOWEL || text.kind == Text.WORD && text.size == 1) {
                    into.emit(asks, text.key == Text.KEY_VOWEL ? Letters.VOWELS : 1 << text.letter(0));
                    text.advance();
                } else {
                    text.blameStanding();
                }
                return;
            }
            int compares = comparesHere();
            if (compares == NONE) {
                text.blameStanding();
                return;
            }
            text.advance();
            if (text.kind != Text.NUMBER) {
                text.blameStanding();
            } else if (text.value > MOST_COMPARED) {
                text.blame(Text.FAULT_NUMBER);
            } else {
                into.emit(asks, (int) text.value << 2 | compares);
                text.advance();
            }
        }

        private void readWhich(Law into) {
            if (!text.isFine()) {
                return;
            }
            int which = whichHere();
            if (which == NONE) {
                text.blameStanding();
            } else {
                into.endRule(which);
                text.advance();
            }
        }

        private int askedHere() {
            switch (text.key) {
                case Text.KEY_SHARED:
                    return Law.SHARED;
                case Text.KEY_BEGINS:
                    return Law.BEGINS;
                case Text.KEY_ENDS:
                    return Law.ENDS;
                case Text.KEY_HAS:
                    return Law.HAS;
                case Text.KEY_SIZE:
                    return Law.SIZE;
                case Text.KEY_SAID:
                    return Law.SAID;
                case Text.KEY_DAY:
                    return Law.DAY;
                case Text.KEY_IDLE:
                    return Law.IDLE;
                default:
                    return NONE;
            }
        }

        private int comparesHere() {
            if (text.isSign('<')) {
                return Law.LESS;
            }
            if (text.isSign('>')) {
                return Law.MORE;
            }
            return text.isSign('=') ? Law.EQUAL : NONE;
        }

        private int whichHere() {
            switch (text.key) {
                case Text.KEY_FIRST:
                    return Law.FIRST;
                case Text.KEY_LAST:
                    return Law.LAST;
                case Text.KEY_SOFT:
                    return Law.SOFTEST;
                case Text.KEY_HARD:
                    return Law.HARDEST;
                case Text.KEY_MIDDLE:
                    return Law.MIDDLE;
                case Text.KEY_VOWEL:
                    return Law.LAST_VOWEL;
                case Text.KEY_NONE:
                    return Law.NO_LETTER;
                default:
                    return NONE;
            }
        }
    }

    /** The RULES by which letters go; what a RULE asks is kept as postfix code. */
    private static final class Law {
        static final int SHARED = 0;
        static final int BEGINS = 1;
        static final int ENDS = 2;
        static final int HAS = 3;
        static final int SIZE = 4;
        static final int SAID = 5;
        static final int DAY = 6;
        static final int IDLE = 7;
        static final int NOT = 8;
        static final int AND = 9;
        static final int OR = 10;

        static final int LESS = 0;
        static final int MORE = 1;
        static final int EQUAL = 2;

        static final int FIRST = 0;
        static final int LAST = 1;
        static final int SOFTEST = 2;
        static final int HARDEST = 3;
        static final int MIDDLE = 4;
        static final int LAST_VOWEL = 5;
        static final int NO_LETTER = 6;

        private static final int HARDER_THAN_ALL = 2 * Letters.LETTERS;
        /** Each piece of code comes of a WORD of its own, of two letters and more. */
        private static final int MOST_PIECES = MOST_LAW / 2;

        private final int[] asks = new int[MOST_PIECES];
        /** What a piece asks for: the set of letters, or a NUMBER times 4 with how to compare. */
        private final int[] wants = new int[MOST_PIECES];
        private final int[] ends = new int[MOST_RULES];
        private final int[] which = new int[MOST_RULES];
        private int pieces = 0;
        int rules = 0;
        /** Whether some RULE lets a word keep all its letters. */
        boolean spares = false;

        void clear() {
            pieces = 0;
            rules = 0;
            spares = false;
        }

        void copyFrom(Law other) {
            System.arraycopy(other.asks, 0, asks, 0, other.pieces);
            System.arraycopy(other.wants, 0, wants, 0, other.pieces);
            System.arraycopy(other.ends, 0, ends, 0, other.rules);
            System.arraycopy(other.which, 0, which, 0, other.rules);
            pieces = other.pieces;
            rules = other.rules;
            spares = other.spares;
        }

        void emit(int asked, int wanted) {
            if (pieces < MOST_PIECES) {
                asks[pieces] = asked;
                wants[pieces] = wanted;
                pieces++;
            }
        }

        void endRule(int letter) {
            if (rules < MOST_RULES) {
                ends[rules] = pieces;
                which[rules] = letter;
                rules++;
                spares = spares || letter == NO_LETTER;
            }
        }

        /** The place of the letter that a word loses if it is said on a DAY, or NONE. */
        int placeLost(Word word, int day, int[] softness) {
            int from = 0;
            for (int rule = 0; rule < rules && rule < MOST_RULES; rule++) {
                if (holds(from, ends[rule], word, day)) {
                    return placeOf(which[rule], word, softness);
                }
                from = ends[rule];
            }
            return word.size - 1;
        }

        /** The answers not yet joined are bits of one int, the latest lowest: nesting is too low to fill it. */
        private boolean holds(int from, int to, Word word, int day) {
            int answers = 0;
            for (int k = from; k < to && k < MOST_PIECES; k++) {
                int joined = answers >> 2 << 1;
                int latest = answers & 1;
                int ahead = answers >> 1 & 1;
                switch (asks[k]) {
                    case NOT:
                        answers ^= 1;
                        break;
                    case AND:
                        answers = joined | latest & ahead;
                        break;
                    case OR:
                        answers = joined | latest | ahead;
                        break;
                    default:
                        answers = answers << 1 | (isSo(asks[k], wants[k], word, day) ? 1 : 0);
                        break;
                }
            }
            return (answers & 1) == 1;
        }

        private static boolean isSo(int asked, int wanted, Word word, int day) {
            int amount;
            switch (asked) {
                case SHARED:
                    return Integer.bitCount(word.meanings) > 1;
                case BEGINS:
                    return (wanted >> word.letter(0) & 1) == 1;
                case ENDS:
                    return (wanted >> word.letter(word.size - 1) & 1) == 1;
                case HAS:
                    return (wanted & word.letterSet()) != 0;
                case SIZE:
                    amount = word.size;
                    break;
                case SAID:
                    amount = word.said;
                    break;
                case DAY:
                    amount = Math.min(day, LAST_COUNTED_DAY);
                    break;
                default:
                    amount = Math.min(day - Math.max(word.latest, 0), LAST_COUNTED_DAY);
                    break;
            }
            int number = wanted >> 2;
            int compares = wanted & 3;
            return compares == LESS ? amount < number : compares == MORE ? amount > number : amount == number;
        }

        private static int placeOf(int letter, Word word, int[] softness) {
            switch (letter) {
                case FIRST:
                    return 0;
                case SOFTEST:
                    return softestPlace(word, softness);
                case HARDEST:
                    return hardestPlace(word, softness);
                case MIDDLE:
                    return word.size / 2;
                case LAST_VOWEL:
                    return lastVowelPlace(word);
                case NO_LETTER:
                    return NONE;
                default:
                    return word.size - 1;
            }
        }

        private static int softestPlace(Word word, int[] softness) {
            int best = 0;
            int least = HARDER_THAN_ALL;
            for (int place = 0; place < word.size; place++) {
                int rank = softness[word.letter(place)];
                if (rank < least) {
                    best = place;
                    least = rank;
                }
            }
            return best;
        }

        private static int hardestPlace(Word word, int[] softness) {
            int best = 0;
            int most = 0;
            for (int place = 0; place < word.size; place++) {
                int rank = softness[word.letter(place)];
                if (rank >= most) {
                    best = place;
                    most = rank;
                }
            }
            return best;
        }

        private static int lastVowelPlace(Word word) {
            for (int place = word.size - 1; place >= 0; place--) {
                if (Letters.isVowel(word.letter(place))) {
                    return place;
                }
            }
            return word.size - 1;
        }
    }

    /** A word as it is now, and what it can get back; without letters it is GONE. */
    private static final class Word {
        long form = 0;
        int size = 0;
        int meanings = 0;
        int said = 0;
        int latest = NONE;
        boolean saidSinceWinter = false;
        /** The letters lost, eight bits each with its place, the latest lowest. */
        private long lost = 0;
        int lostMany = 0;
        long firstForm = 0;
        int firstSize = 0;

        void begin(long newForm, int newSize, int newMeanings) {
            form = newForm;
            size = newSize;
            meanings = newMeanings;
            said = 0;
            latest = NONE;
            saidSinceWinter = false;
            keepLost();
            firstForm = newForm;
            firstSize = newSize;
        }

        void copyFrom(Word other) {
            form = other.form;
            size = other.size;
            meanings = other.meanings;
            said = other.said;
            latest = other.latest;
            saidSinceWinter = other.saidSinceWinter;
            lost = other.lost;
            lostMany = other.lostMany;
            firstForm = other.firstForm;
            firstSize = other.firstSize;
        }

        boolean isGone() {
            return size == 0;
        }

        /** The letter at a place, a being 1, of which there are less than 32; 0 where it has none. */
        int letter(int place) {
            return place >= 0 && place < size ? (int) (form >> Letters.BITS * (size - 1 - place)) & Letters.MASK : 0;
        }

        int letterSet() {
            int set = 0;
            long rest = form;
            for (int k = 0; k < size; k++) {
                set |= 1 << (int) (rest & Letters.MASK);
                rest >>= Letters.BITS;
            }
            return set;
        }

        /** It is said on a DAY and loses the letter at a place, or none. */
        void wear(int place, int day) {
            said++;
            latest = day;
            saidSinceWinter = true;
            if (place >= 0 && place < size) {
                lost = lost << 8 | letter(place) << 3 | place;
                lostMany++;
                form = Letters.without(form, size, place);
                size--;
            }
            if (size == 0) {
                goAway();
            }
        }

        void goAway() {
            form = 0;
            size = 0;
            meanings = 0;
            keepLost();
        }

        /** What it lost up to now never comes back. */
        void keepLost() {
            lost = 0;
            lostMany = 0;
        }

        boolean canRegain() {
            return size > 0 && size < MOST_LETTERS && lostMany > 0 && !saidSinceWinter;
        }

        long regained() {
            return Letters.with(form, size, (int) (lost & 7), (int) (lost >> 3 & 31));
        }

        void regain() {
            form = regained();
            size++;
            lost = lost >>> 8;
            lostMany--;
        }
    }

    /** The VILLAGE with all that became of it, and its LAW. */
    private static final class Village {
        final Word[] words = new Word[MOST_WORDS];
        final Law law = new Law();
        /** A word to try on what would come of it. */
        final Word tried = new Word();
        int meanings = 0;
        int many = 0;
        int speakers = 0;
        int day = 0;
        private final long[] known = new long[MOST_SPEAKERS * MOST_WORDS];
        final int[] softness = new int[Letters.LETTERS];
        private final int[] commonRow = new int[MOST_LETTERS + 1];

        Village() {
            for (int k = 0; k < MOST_WORDS; k++) {
                words[k] = new Word();
            }
            hardenAll();
        }

        void clear() {
            meanings = 0;
            many = 0;
            speakers = 0;
            day = 0;
            law.clear();
            hardenAll();
        }

        void copyFrom(Village other) {
            for (int word = 0; word < other.many && word < MOST_WORDS; word++) {
                words[word].copyFrom(other.words[word]);
            }
            law.copyFrom(other.law);
            meanings = other.meanings;
            many = other.many;
            speakers = other.speakers;
            day = other.day;
            System.arraycopy(other.known, 0, known, 0, MOST_SPEAKERS * MOST_WORDS);
            System.arraycopy(other.softness, 0, softness, 0, Letters.LETTERS);
        }

        /** Letters that soft doesn't name rank behind all that it could name. */
        private void hardenAll() {
            for (int letter = 0; letter < Letters.LETTERS; letter++) {
                softness[letter] = Letters.LETTERS + letter;
            }
        }

        void soften(int letter, int rank) {
            if (letter > 0 && letter < Letters.LETTERS) {
                softness[letter] = rank;
            }
        }

        void addWord(long form, int size, int set) {
            if (many < MOST_WORDS) {
                words[many].begin(form, size, set);
                many++;
            }
        }

        void teachAllWords() {
            for (int word = 0; word < many; word++) {
                teachWord(word);
            }
        }

        private void teachWord(int word) {
            for (int speaker = 0; speaker < speakers; speaker++) {
                learn(speaker, word, words[word].form);
            }
        }

        boolean isWord(int word) {
            return word >= 0 && word < many && word < MOST_WORDS;
        }

        boolean isMeaning(int meaning) {
            return meaning >= 0 && meaning < meanings;
        }

        boolean isSpeaker(int speaker) {
            return speaker >= 0 && speaker < speakers && speaker < MOST_SPEAKERS;
        }

        boolean areOthers(int speaker, int hearers) {
            return (hearers & ~othersThan(speaker)) == 0;
        }

        int othersThan(int speaker) {
            return (1 << speakers) - 1 & ~(1 << speaker);
        }

        long knownForm(int speaker, int word) {
            return isSpeaker(speaker) && isWord(word) ? known[speaker * MOST_WORDS + word] : 0;
        }

        private void learn(int speaker, int word, long form) {
            if (isSpeaker(speaker) && isWord(word)) {
                known[speaker * MOST_WORDS + word] = form;
            }
        }

        boolean understands(int speaker, int word) {
            return isWord(word) && Letters.isLeftOf(words[word].form, knownForm(speaker, word));
        }

        /** By how many unlike FORMS the SPEAKERS know a word: a FORM counts at its first one. */
        int formsKnown(int word) {
            int forms = 0;
            for (int speaker = 0; speaker < speakers; speaker++) {
                boolean isNew = true;
                for (int ahead = 0; ahead < speaker; ahead++) {
                    isNew = isNew && knownForm(ahead, word) != knownForm(speaker, word);
                }
                forms += isNew ? 1 : 0;
            }
            return forms;
        }

        int countLiving() {
            int living = 0;
            for (int word = 0; word < many; word++) {
                living += words[word].isGone() ? 0 : 1;
            }
            return living;
        }

        int countLetters() {
            int letters = 0;
            for (int word = 0; word < many; word++) {
                letters += words[word].size;
            }
            return letters;
        }

        int wordsWith(int meaning) {
            int set = 0;
            for (int word = 0; word < many; word++) {
                if ((words[word].meanings >> meaning & 1) == 1) {
                    set |= 1 << word;
                }
            }
            return set;
        }

        int meaningsOfOne() {
            int set = 0;
            for (int meaning = 0; meaning < meanings; meaning++) {
                if (Integer.bitCount(wordsWith(meaning)) == 1) {
                    set |= 1 << meaning;
                }
            }
            return set;
        }

        int meaningsOfNone() {
            int set = 0;
            for (int meaning = 0; meaning < meanings; meaning++) {
                if (wordsWith(meaning) == 0) {
                    set |= 1 << meaning;
                }
            }
            return set;
        }

        int cheapWord(int meaning) {
            int set = wordsWith(meaning);
            int best = NONE;
            int most = 0;
            for (int word = 0; word < many; word++) {
                if ((set >> word & 1) == 1 && words[word].size > most) {
                    best = word;
                    most = words[word].size;
                }
            }
            return best;
        }

        /** The word but that one that is not GONE and has a FORM. */
        int alikeTo(long form, int butThat) {
            for (int word = 0; word < many; word++) {
                if (word != butThat && !words[word].isGone() && words[word].form == form) {
                    return word;
                }
            }
            return NONE;
        }

        int rhymesOf(int word, int n) {
            long end = Letters.lastOf(words[word].form, n);
            int set = 0;
            for (int other = 0; other < many; other++) {
                if (other != word && words[other].size >= n && Letters.lastOf(words[other].form, n) == end) {
                    set |= 1 << other;
                }
            }
            return set;
        }

        /** Row by row: at each place of b the most letters in common up to there. */
        int commonOf(Word a, Word b) {
            for (int k = 0; k <= MOST_LETTERS; k++) {
                commonRow[k] = 0;
            }
            for (int i = 0; i < a.size && i < MOST_LETTERS; i++) {
                int slant = 0;
                for (int j = 0; j < b.size && j < MOST_LETTERS; j++) {
                    int above = commonRow[j + 1];
                    int most = a.letter(i) == b.letter(j) ? slant + 1 : Math.max(above, commonRow[j]);
                    commonRow[j + 1] = most;
                    slant = above;
                }
            }
            return b.size <= MOST_LETTERS ? commonRow[b.size] : 0;
        }

        int placeLost(int word) {
            return law.placeLost(words[word], day, softness);
        }

        /** A word is SAID to nobody: how many letters it loses. */
        int sayWord(int word) {
            int place = law.placeLost(words[word], day, softness);
            words[word].wear(place, day);
            int other = alikeTo(words[word].form, word);
            if (other != NONE) {
                unite(word, other);
            }
            return place == NONE ? 0 : 1;
        }

        /** Two words that are alike become ONE, today. */
        void unite(int a, int b) {
            Word stays = words[Math.min(a, b)];
            Word goes = words[Math.max(a, b)];
            stays.meanings |= goes.meanings;
            stays.said += goes.said;
            stays.latest = day;
            stays.saidSinceWinter = true;
            stays.keepLost();
            goes.goAway();
        }

        /** A word is SAID by a SPEAKER to some: the set who UNDERSTAND. */
        int tellWord(int speaker, int word, int hearers) {
            int set = 0;
            for (int hearer = 0; hearer < speakers; hearer++) {
                if ((hearers >> hearer & 1) == 1) {
                    set |= understands(hearer, word) ? 1 << hearer : 0;
                    learn(hearer, word, words[word].form);
                }
            }
            learn(speaker, word, words[word].form);
            sayWord(word);
            return set;
        }

        void passDay() {
            day = Math.min(day + 1, LAST_DAY);
        }

        /** WINTER: the set of words that get a letter back. */
        int giveBack() {
            int set = 0;
            for (int word = 0; word < many; word++) {
                Word asked = words[word];
                if (asked.canRegain() && alikeTo(asked.regained(), word) == NONE) {
                    asked.regain();
                    set |= 1 << word;
                }
                asked.saidSinceWinter = false;
            }
            return set;
        }

        /** How often a MEANING can be said by its CHEAP word till none has it. */
        int wearOut(int meaning) {
            int times = 0;
            int word = cheapWord(meaning);
            while (times < LONGEST_LASTING && word != NONE) {
                sayWord(word);
                times++;
                word = cheapWord(meaning);
            }
            return times;
        }

        void tryWord(int word) {
            tried.copyFrom(words[word]);
        }

        void wearTried(int onDay) {
            if (!tried.isGone()) {
                tried.wear(law.placeLost(tried, onDay, softness), onDay);
            }
        }

        /** LIFE of the word tried, today; one more than the longest if that is not enough. */
        int lifeOfTried() {
            int life = 0;
            while (life <= LONGEST_LIFE && !tried.isGone()) {
                wearTried(day);
                life++;
            }
            return life;
        }

        private long cutForm(int a, int i, int b, int j) {
            return Letters.join(Letters.firstOf(words[a].form, words[a].size, i), Letters.lastOf(words[b].form, j), j);
        }

        boolean canCut(int a, int i, int b, int j) {
            if (i > words[a].size || j > words[b].size || i + j > MOST_LETTERS) {
                return false;
            }
            return alikeTo(cutForm(a, i, b, j), NONE) == NONE;
        }

        int lifeOfCut(int a, int i, int b, int j) {
            tried.begin(cutForm(a, i, b, j), i + j, 0);
            return Math.min(lifeOfTried(), LONGEST_LIFE);
        }

        /** CUT: the new word's number. */
        int cutWord(int a, int i, int b, int j, int meaning) {
            int number = freeNumber();
            if (number >= MOST_WORDS) {
                return NONE;
            }
            words[number].begin(cutForm(a, i, b, j), i + j, 1 << meaning);
            many = Math.max(many, number + 1);
            teachWord(number);
            if (!words[a].isGone()) {
                sayWord(a);
            }
            if (!words[b].isGone()) {
                sayWord(b);
            }
            return number;
        }

        private int freeNumber() {
            for (int word = 0; word < many; word++) {
                if (words[word].isGone()) {
                    return word;
                }
            }
            return many;
        }
    }

    /** Tells STORIES in all ways, on a VILLAGE that is put back to what it was behind each. */
    private static final class Stories {
        private static final int OUT_OF_REACH = 99;
        private static final int NOT_ASKED = -2;

        final int[] first = new int[MOST_TOLD];
        int firstMany = 0;
        private final int[] row = new int[MOST_TOLD];
        private final int[] path = new int[MOST_TOLD];
        private final int[] twins = new int[MOST_TOLD];
        private final Word[] saidBefore = new Word[MOST_TOLD];
        private final Word[] twinBefore = new Word[MOST_TOLD];
        /** The place that each word would lose as it is, so that the LAW is asked only about words that have changed. */
        private final int[] places = new int[MOST_WORDS];
        private final int[] placeBefore = new int[MOST_TOLD];
        private final int[] twinPlaceBefore = new int[MOST_TOLD];
        private int many = 0;
        private int fewest = OUT_OF_REACH;

        Stories() {
            for (int k = 0; k < MOST_TOLD; k++) {
                saidBefore[k] = new Word();
                twinBefore[k] = new Word();
            }
        }

        /** The row of MEANINGS that is told from now on; false if one can't be. */
        boolean take(Tray tray, int length, int meanings) {
            many = Math.min(length, MOST_TOLD);
            for (int k = 0; k < many; k++) {
                long meaning = tray.at(k);
                if (meaning < 0 || meaning >= meanings) {
                    return false;
                }
                row[k] = (int) meaning;
            }
            return true;
        }

        int countRows(Village here) {
            forgetPlaces();
            return rowsFrom(here, 0);
        }

        int farthest(Village here) {
            forgetPlaces();
            return farthestFrom(here, 0);
        }

        /** The fewest letters, the FIRST row being kept; NONE, and the row ahead stays, if it can't be told. */
        int fewestLetters(Village here) {
            fewest = OUT_OF_REACH;
            forgetPlaces();
            seekFewest(here, 0, 0);
            if (fewest == OUT_OF_REACH) {
                return NONE;
            }
            firstMany = many;
            return fewest;
        }

        /** Each MEANING is said by its CHEAP word: how many letters, or NONE if one has no word by then. */
        int tellCheaply(Village here) {
            int letters = 0;
            for (int k = 0; k < many; k++) {
                int word = here.cheapWord(row[k]);
                if (word == NONE) {
                    return NONE;
                }
                letters += here.sayWord(word);
            }
            return letters;
        }

        private int rowsFrom(Village here, int depth) {
            if (depth < 0 || depth >= many) {
                return 0;
            }
            int set = here.wordsWith(row[depth]);
            if (depth == many - 1) {
                return Integer.bitCount(set);
            }
            int rows = 0;
            for (int word = 0; word < here.many; word++) {
                if ((set >> word & 1) == 1) {
                    step(here, depth, word, placeLost(here, word));
                    rows += rowsFrom(here, depth + 1);
                    stepBack(here, depth, word);
                }
            }
            return rows;
        }

        private int farthestFrom(Village here, int depth) {
            if (depth < 0 || depth >= many) {
                return depth;
            }
            int set = here.wordsWith(row[depth]);
            if (set == 0) {
                return depth;
            }
            int best = depth + 1;
            for (int word = 0; word < here.many && best < many; word++) {
                if ((set >> word & 1) == 1) {
                    step(here, depth, word, placeLost(here, word));
                    best = Math.max(best, farthestFrom(here, depth + 1));
                    stepBack(here, depth, word);
                }
            }
            return best;
        }

        /** Rows come by their numbers, so of those with the fewest letters the first one is kept. */
        private void seekFewest(Village here, int depth, int lost) {
            int atLeast = here.law.spares ? lost : lost + many - depth;
            if (depth < 0 || depth >= many) {
                return;
            }
            int set = here.wordsWith(row[depth]);
            for (int word = 0; word < here.many && atLeast < fewest; word++) {
                if ((set >> word & 1) == 1) {
                    path[depth] = word;
                    int place = placeLost(here, word);
                    int nowLost = place == NONE ? lost : lost + 1;
                    if (depth == many - 1) {
                        keepIfFewer(nowLost);
                    } else {
                        step(here, depth, word, place);
                        seekFewest(here, depth + 1, nowLost);
                        stepBack(here, depth, word);
                    }
                }
            }
        }

        private void keepIfFewer(int lost) {
            if (lost < fewest) {
                fewest = lost;
                System.arraycopy(path, 0, first, 0, many);
            }
        }

        private void forgetPlaces() {
            for (int word = 0; word < MOST_WORDS; word++) {
                places[word] = NOT_ASKED;
            }
        }

        private int placeLost(Village here, int word) {
            if (places[word] == NOT_ASKED) {
                places[word] = here.law.placeLost(here.words[word], here.day, here.softness);
            }
            return places[word];
        }

        /** Says a word, keeping what stepBack needs. */
        private void step(Village here, int depth, int word, int place) {
            Word said = here.words[word];
            saidBefore[depth].copyFrom(said);
            placeBefore[depth] = place;
            places[word] = NOT_ASKED;
            said.wear(place, here.day);
            int twin = here.alikeTo(said.form, word);
            twins[depth] = twin;
            if (twin != NONE) {
                twinBefore[depth].copyFrom(here.words[twin]);
                twinPlaceBefore[depth] = places[twin];
                places[twin] = NOT_ASKED;
                here.unite(word, twin);
            }
        }

        private void stepBack(Village here, int depth, int word) {
            here.words[word].copyFrom(saidBefore[depth]);
            places[word] = placeBefore[depth];
            int twin = twins[depth];
            if (twin != NONE) {
                here.words[twin].copyFrom(twinBefore[depth]);
                places[twin] = twinPlaceBefore[depth];
            }
        }
    }

    /** Counts what HEARD rows of FORMS may have been. */
    private static final class Hearing {
        private static final int SETS = 1 << MOST_HEARD;
        private static final int NEVER = CHAIN_FORMS;

        private final long[] heard = new long[MOST_HEARD];
        private final long[] forms = new long[CHAIN_FORMS];
        /** Of each set of FORMS heard: where on its CHAIN a word has got if it was all of them. */
        private final int[] reached = new int[SETS];
        private final int[] rows = new int[SETS];
        private int many = 0;

        /** The row that is read from now on; false if a number can't be. */
        boolean take(Tray tray, int length) {
            many = Math.min(length, MOST_HEARD);
            for (int k = 0; k < many; k++) {
                heard[k] = tray.at(k);
                if (heard[k] < 1) {
                    return false;
                }
            }
            return true;
        }

        /**
         * Whether a word may stand at some places does not depend on the words at the others.
         * So words come one by one, and rows[set] counts the ways to fill the places of a set with those up to then.
         */
        int countRows(Village here) {
            int sets = 1 << many;
            for (int set = 0; set < sets && set < SETS; set++) {
                rows[set] = set == 0 ? 1 : 0;
            }
            for (int word = 0; word < here.many; word++) {
                if (!here.words[word].isGone()) {
                    followChain(here, word);
                    findReached(sets);
                    addWord(sets);
                }
            }
            return rows[sets - 1];
        }

        private void followChain(Village here, int word) {
            here.tried.begin(here.words[word].firstForm, here.words[word].firstSize, 0);
            for (int k = 0; k < CHAIN_FORMS; k++) {
                forms[k] = here.tried.form;
                here.wearTried(0);
            }
        }

        /** A set is that without its last FORM heard, and then that FORM, as early on the CHAIN as can be. */
        private void findReached(int sets) {
            reached[0] = NONE;
            for (int set = 1; set < sets && set < SETS; set++) {
                int last = 31 - Integer.numberOfLeadingZeros(set);
                int from = reached[set ^ 1 << last];
                int k = from + 1;
                while (k < CHAIN_FORMS && forms[k] != heard[last]) {
                    k++;
                }
                reached[set] = Math.min(k, NEVER);
            }
        }

        /** From the greatest set down, as a set needs what its parts were without this word. */
        private void addWord(int sets) {
            for (int set = Math.min(sets, SETS) - 1; set > 0; set--) {
                int sum = rows[set];
                for (int part = 1; part <= set; part++) {
                    if ((part & ~set) == 0 && reached[part] < NEVER) {
                        sum += rows[set ^ part];
                    }
                }
                rows[set] = sum;
            }
        }
    }

    /** GOSSIP by draws, and what came of it. */
    private static final class Gossip {
        int understood = 0;
        int sayings = 0;
        int heard = 0;
        int living = 0;
        int letters = 0;
        private int drawn = 0;

        /** Uses a VILLAGE up. */
        void run(Village here, int seed, int days) {
            understood = 0;
            sayings = 0;
            heard = 0;
            drawn = seed;
            for (int k = 0; k < days; k++) {
                int speaker = draw(here.speakers);
                int word = draw(here.many);
                if (here.isWord(word) && !here.words[word].isGone()) {
                    int hearers = here.othersThan(speaker);
                    understood += Integer.bitCount(here.tellWord(speaker, word, hearers));
                    heard += Integer.bitCount(hearers);
                    sayings++;
                }
                here.passDay();
            }
            living = here.countLiving();
            letters = here.countLetters();
        }

        private int draw(int n) {
            drawn = (drawn * 2621 + 13217) % 65536;
            return n > 0 ? drawn / 8 % n : 0;
        }
    }
}
