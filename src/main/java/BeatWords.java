/**
 * Beats in words: a text is cut into words and syllables, feet are built of the syllables, their
 * beats are heard once clashes are settled, and are held against beats that were told by hand.
 *
 * What the calls ask for is worked out when it is first asked for after a change, in rows that the
 * constructors make once: no call makes an object.
 */
public final class BeatWords {
    public static final int NONE = -1, BAD = -2, NOT = -3, FULL = -4;

    private static final int MOST = 60;
    private static final int MOST_WORDS = 30;
    private static final int MOST_SHOWN = 180;
    private static final int MOST_MARKED = 6;
    private static final int SHEETS = 4;
    private static final int LEAST_INT = -2147483648;

    private static final int TWINS = 0, ONSET = 1, CODA = 2, EDGE = 3;
    private static final int SORT = 4, FROM = 5, REST = 6, MAIN = 7, WINDOW = 8;
    private static final int WAYS = 9;
    private static final int[] LEAST_WAYS = {0, 1, 0, 0, 0, 0, 0, 0, 0};
    private static final int[] MOST_WAYS = {1, 2, 2, 2, 2, 1, 1, 2, 3};
    /** SORT, FROM, REST and MAIN as one number: in its order, ways that are least come first. */
    private static final int FOOT_WAYS = 36;

    private static final int BYTES = 0, FLOATS = 2;
    private static final int NULL = 1, INDEX = 2, CAST = 3, STORE = 4, SIZE = 5;

    private final int[] bytes = new int[MOST];
    private final int[] ways = new int[WAYS];
    private final int[] trialWays = new int[WAYS];
    private final int[] told = new int[MOST];
    private final int[] shown = new int[MOST_SHOWN];
    private final Lexicon lexicon = new Lexicon();
    private final Sheet[] sheets = new Sheet[SHEETS];
    private final Cut cut = new Cut();
    private final Stress now = new Stress();
    private final Stress trial = new Stress();
    private int length;
    private int shownLength;
    private int latestFinding;
    private int nearestFootWays;
    private int nearestCount;
    private boolean stale = true;
    private boolean nearestStale = true;

    public BeatWords() {
        for (int k = 0; k < WAYS; k++) {
            set(ways, k, at(LEAST_WAYS, k));
        }
        for (int s = 0; s < sheets.length; s++) {
            sheets[s] = new Sheet();
        }
    }

    // ---- the text, the ways

    public int type(int b) {
        if (b < 0 || b > 255) {
            return BAD;
        }
        if (length >= MOST) {
            return FULL;
        }
        set(bytes, length, b);
        length++;
        textChanged();
        return length;
    }

    public int wipe() {
        int had = length;
        length = 0;
        textChanged();
        return had;
    }

    public int read(int s) {
        Sheet sheet = sheetAt(s);
        if (sheet == null) {
            return BAD;
        }
        if (sheet.lost) {
            return finding(NULL);
        }
        if (sheet.form != BYTES) {
            return finding(CAST);
        }
        length = sheet.size;
        for (int i = 0; i < length; i++) {
            set(bytes, i, at(sheet.whole, i) & 255);
        }
        textChanged();
        return length;
    }

    public int flaw() {
        refresh();
        return cut.flaw;
    }

    public int way(int k, int v) {
        if (k < 0 || k >= WAYS || v < at(LEAST_WAYS, k) || v > at(MOST_WAYS, k)) {
            return BAD;
        }
        int was = at(ways, k);
        set(ways, k, v);
        changed();
        return was;
    }

    public int word(int k, int what) {
        refresh();
        if (k < 0 || k >= cut.words) {
            return BAD;
        }
        return ofWord(k, what);
    }

    public int syllable(int k, int what) {
        refresh();
        if (k < 0 || k >= cut.syllables) {
            return BAD;
        }
        return ofSyllable(k, what);
    }

    // ---- exceptions

    public int mark(int k, int j) {
        refresh();
        if (k < 0 || k >= cut.words || j < 0 || j >= at(cut.wordSize, k)) {
            return BAD;
        }
        if (!lexicon.add(bytes, at(cut.wordStart, k), at(cut.wordEnd, k), j)) {
            return FULL;
        }
        changed();
        return lexicon.size;
    }

    public int unmark(int k) {
        refresh();
        if (k < 0 || k >= cut.words) {
            return BAD;
        }
        int place = lexicon.find(bytes, at(cut.wordStart, k), at(cut.wordEnd, k));
        if (place == NONE) {
            return NOT;
        }
        lexicon.remove(place);
        changed();
        return lexicon.size;
    }

    public int marked(int k) {
        refresh();
        if (k < 0 || k >= cut.words) {
            return BAD;
        }
        return at(cut.wordMark, k);
    }

    // ---- beats

    public int clash(int k) {
        refresh();
        if (k < 0 || k >= now.clashes) {
            return BAD;
        }
        return at(now.clashing, k);
    }

    public int heard(int what) {
        refresh();
        return ofHearing(what);
    }

    public int tell(int k, int beat) {
        refresh();
        if (k < 0 || k >= cut.syllables || beat < 0 || beat > 2) {
            return BAD;
        }
        int was = at(told, k);
        set(told, k, beat);
        nearestStale = true;
        return was;
    }

    public int copyHeard() {
        refresh();
        for (int k = 0; k < cut.syllables; k++) {
            set(told, k, at(now.heardBeat, k));
        }
        nearestStale = true;
        return heardBeats();
    }

    public int near() {
        refresh();
        return now.likeTold(cut, told);
    }

    public int nearest(int what) {
        if (what < 0 || what > 4) {
            return BAD;
        }
        refresh();
        seekNearest();
        return ofNearest(what);
    }

    public int learn() {
        refresh();
        seekNearest();
        for (int k = SORT; k <= MAIN; k++) {
            set(ways, k, footWay(nearestFootWays, k));
        }
        changed();
        return nearestCount;
    }

    public int share(int what) {
        refresh();
        return shareBits(what);
    }

    public int text(int n) {
        refresh();
        if (n == NONE) {
            return shownLength;
        }
        if (n < 0 || n >= shownLength) {
            return BAD;
        }
        return at(shown, n);
    }

    // ---- sheets

    public int sheet(int s, int form, int n) {
        Sheet sheet = sheetAt(s);
        if (sheet == null || !isForm(form) || n > MOST) {
            return BAD;
        }
        if (n < 0) {
            return finding(SIZE);
        }
        sheet.renew(form, n);
        return n;
    }

    public int lose(int s) {
        Sheet sheet = sheetAt(s);
        if (sheet == null) {
            return BAD;
        }
        if (sheet.lost) {
            return finding(NULL);
        }
        sheet.lost = true;
        return sheet.size;
    }

    public int put(int s, int form, int i, int v) {
        Sheet sheet = sheetAt(s);
        if (sheet == null || !isForm(form)) {
            return BAD;
        }
        if (sheet.lost) {
            return finding(NULL);
        }
        if (sheet.form != form) {
            return finding(CAST);
        }
        if (!sheet.has(i, 1)) {
            return finding(INDEX);
        }
        sheet.place(i, v, 8);
        return 1;
    }

    public int get(int s, int i) {
        Sheet sheet = sheetAt(s);
        if (sheet == null) {
            return LEAST_INT;
        }
        if (sheet.lost) {
            finding(NULL);
            return LEAST_INT;
        }
        if (!sheet.has(i, 1)) {
            finding(INDEX);
            return LEAST_INT;
        }
        return sheet.item(i);
    }

    public int copy(int s, int i, int t, int j, int n) {
        Sheet from = sheetAt(s);
        Sheet to = sheetAt(t);
        if (from == null || to == null) {
            return BAD;
        }
        if (from.lost || to.lost) {
            return finding(NULL);
        }
        if (from.form != to.form) {
            return finding(STORE);
        }
        if (!from.has(i, n) || !to.has(j, n)) {
            return finding(INDEX);
        }
        to.take(from, i, j, n);
        return 1;
    }

    public int write(int s) {
        Sheet sheet = sheetAt(s);
        if (sheet == null) {
            return BAD;
        }
        if (sheet.lost) {
            return finding(NULL);
        }
        refresh();
        int n = Math.min(sheet.size, cut.syllables);
        for (int k = 0; k < n; k++) {
            sheet.place(k, at(now.heardBeat, k), at(cut.moras, k));
        }
        return n;
    }

    public int count(int what) {
        refresh();
        return countOf(what);
    }

    public long digest() {
        refresh();
        seekNearest();
        long h = 17;
        for (int what = 0; what <= 7; what++) {
            h = 31 * h + countOf(what);
        }
        h = 31 * h + cut.flaw;
        h = digestWords(h);
        for (int k = 0; k < now.clashes; k++) {
            h = 31 * h + at(now.clashing, k);
        }
        for (int what = 0; what <= 3; what++) {
            h = 31 * h + ofHearing(what);
        }
        h = 31 * h + now.likeTold(cut, told);
        for (int what = 0; what <= 4; what++) {
            h = 31 * h + ofNearest(what);
        }
        for (int what = 0; what <= 2; what++) {
            h = 31 * h + shareBits(what);
        }
        h = 31 * h + shownLength;
        for (int n = 0; n < shownLength; n++) {
            h = 31 * h + at(shown, n);
        }
        return h;
    }

    // ---- what the calls are made of: these look at words and beats as the latest refresh() left them

    private static int at(int[] row, int i) {
        return row != null && i >= 0 && i < row.length ? row[i] : 0;
    }

    private static void set(int[] row, int i, int v) {
        if (row != null && i >= 0 && i < row.length) {
            row[i] = v;
        }
    }

    private static boolean isVowel(int b) {
        return b == 'a' || b == 'e' || b == 'i' || b == 'o' || b == 'u';
    }

    private static boolean isForm(int form) {
        return form >= BYTES && form <= FLOATS;
    }

    private Sheet sheetAt(int s) {
        return s >= 0 && s < sheets.length ? sheets[s] : null;
    }

    private int finding(int number) {
        latestFinding = number;
        return -10 - number;
    }

    private void changed() {
        stale = true;
        nearestStale = true;
    }

    private void textChanged() {
        for (int k = 0; k < MOST; k++) {
            set(told, k, 0);
        }
        changed();
    }

    private void refresh() {
        if (!stale) {
            return;
        }
        stale = false;
        cut.make(bytes, length, ways);
        cut.lookUp(lexicon, bytes);
        now.make(cut, ways);
        now.hear(cut, at(ways, WINDOW));
        now.listClashes(cut, at(ways, WINDOW));
        show();
    }

    private void show() {
        shownLength = 0;
        for (int k = 0; k < cut.syllables; k++) {
            int word = at(cut.wordOf, k);
            if (k > at(cut.wordFirst, word)) {
                showByte('.');
            } else if (word > 0) {
                showByte(' ');
            }
            int beat = at(now.heardBeat, k);
            if (beat > 0) {
                showByte(beat == 2 ? '\'' : ',');
            }
            for (int i = at(cut.start, k); i < at(cut.end, k); i++) {
                showByte(at(bytes, i));
            }
        }
    }

    private void showByte(int b) {
        set(shown, shownLength, b);
        shownLength++;
    }

    /** Which of WAYS k, from SORT to MAIN, a number of FOOT_WAYS stands for. */
    private static int footWay(int number, int k) {
        switch (k) {
            case SORT:
                return number / 12;
            case FROM:
                return number / 6 % 2;
            case REST:
                return number / 3 % 2;
            default:
                return number % 3;
        }
    }

    private void seekNearest() {
        if (!nearestStale) {
            return;
        }
        nearestStale = false;
        for (int k = 0; k < WAYS; k++) {
            set(trialWays, k, at(ways, k));
        }
        nearestCount = NONE;
        for (int number = 0; number < FOOT_WAYS; number++) {
            for (int k = SORT; k <= MAIN; k++) {
                set(trialWays, k, footWay(number, k));
            }
            trial.make(cut, trialWays);
            trial.hear(cut, at(ways, WINDOW));
            int like = trial.likeTold(cut, told);
            if (like > nearestCount) {
                nearestCount = like;
                nearestFootWays = number;
            }
        }
    }

    private int ofNearest(int what) {
        return what == 4 ? nearestCount : footWay(nearestFootWays, SORT + what);
    }

    private int ofWord(int k, int what) {
        switch (what) {
            case 0:
                return at(cut.wordFirst, k);
            case 1:
                return at(cut.wordSize, k);
            case 2:
                return at(now.feet, k);
            case 3:
                return now.mainBeat(cut, now.beat, k);
            case 4:
                return now.mainBeat(cut, now.heardBeat, k);
            case 5:
                return cut.isMarked(k) ? 1 : 0;
            default:
                return BAD;
        }
    }

    private int ofSyllable(int k, int what) {
        switch (what) {
            case 0:
                return at(cut.wordOf, k);
            case 1:
                return at(cut.start, k);
            case 2:
                return at(cut.end, k) - at(cut.start, k);
            case 3:
                return at(cut.moras, k);
            case 4:
                return at(now.footOf, k);
            case 5:
                return at(now.beat, k);
            case 6:
                return at(now.heardBeat, k);
            case 7:
                return at(told, k);
            default:
                return BAD;
        }
    }

    private int ofHearing(int what) {
        switch (what) {
            case 0:
                return now.moves;
            case 1:
                return now.stuck;
            case 2:
                return now.clashes;
            case 3:
                return now.heardClashes;
            default:
                return BAD;
        }
    }

    private int countOf(int what) {
        switch (what) {
            case 0:
                return length;
            case 1:
                return cut.words;
            case 2:
                return cut.syllables;
            case 3:
                return feetOfAll();
            case 4:
                return cut.heavyOnes();
            case 5:
                return lexicon.size;
            case 6:
                return heardBeats();
            case 7:
                return morasOf(false);
            case 8:
                return latestFinding;
            default:
                return BAD;
        }
    }

    private int feetOfAll() {
        int sum = 0;
        for (int k = 0; k < cut.words; k++) {
            sum += at(now.feet, k);
        }
        return sum;
    }

    private int heardBeats() {
        int sum = 0;
        for (int k = 0; k < cut.syllables; k++) {
            if (at(now.heardBeat, k) != 0) {
                sum++;
            }
        }
        return sum;
    }

    private int morasOf(boolean heardAlone) {
        int sum = 0;
        for (int k = 0; k < cut.syllables; k++) {
            if (!heardAlone || at(now.heardBeat, k) != 0) {
                sum += at(cut.moras, k);
            }
        }
        return sum;
    }

    private int shareBits(int what) {
        switch (what) {
            case 0:
                return bitsOf(now.likeTold(cut, told), cut.syllables);
            case 1:
                return bitsOf(cut.heavyOnes(), cut.syllables);
            case 2:
                return bitsOf(morasOf(true), morasOf(false));
            default:
                return 0;
        }
    }

    /**
     * The bits of part / whole as a float, for 0 <= part <= whole. LANGUAGE.md leaves no call that
     * tells a float's bits; doubling and taking 1 off are exact for floats.
     */
    private static int bitsOf(int part, int whole) {
        if (part <= 0 || whole <= 0) {
            return 0;
        }
        float value = (float) part / (float) whole;
        int exponent = 127;
        for (int i = 0; i < 126 && value < 1f; i++) {
            value = value * 2f;
            exponent--;
        }
        return (exponent << 23) | (int) ((value - 1f) * 8388608f);
    }

    private long digestWords(long before) {
        long h = before;
        for (int k = 0; k < cut.words; k++) {
            for (int what = 0; what <= 5; what++) {
                h = 31 * h + ofWord(k, what);
            }
            h = 31 * h + at(cut.wordMark, k);
        }
        for (int k = 0; k < cut.syllables; k++) {
            for (int what = 0; what <= 7; what++) {
                h = 31 * h + ofSyllable(k, what);
            }
        }
        return h;
    }

    /** THE TEXT cut into WORDS and SYLLABLES, these weighed. */
    private static final class Cut {
        private final int[] wordStart = new int[MOST_WORDS];
        private final int[] wordEnd = new int[MOST_WORDS];
        private final int[] wordFirst = new int[MOST_WORDS];
        private final int[] wordSize = new int[MOST_WORDS];
        private final int[] wordMark = new int[MOST_WORDS];
        private final int[] wordOf = new int[MOST];
        private final int[] start = new int[MOST];
        private final int[] end = new int[MOST];
        private final int[] moras = new int[MOST];
        private int flaw;
        private int words;
        private int syllables;

        private void make(int[] bytes, int length, int[] ways) {
            words = 0;
            syllables = 0;
            flaw = firstFlaw(bytes, length);
            if (flaw != NONE) {
                return;
            }
            int from = 0;
            for (int i = 0; i <= length; i++) {
                if (i == length || at(bytes, i) == ' ') {
                    addWord(bytes, from, i, ways);
                    from = i + 1;
                }
            }
        }

        private static int firstFlaw(int[] bytes, int length) {
            // a blank with no VOWEL since the last one stands first, behind a blank, or behind a
            // WORD without one; likewise the end
            boolean vowel = false;
            for (int i = 0; i < length; i++) {
                int b = at(bytes, i);
                if (b == ' ') {
                    if (!vowel) {
                        return i;
                    }
                    vowel = false;
                } else if (b < 'a' || b > 'z') {
                    return i;
                } else if (isVowel(b)) {
                    vowel = true;
                }
            }
            return vowel ? NONE : length;
        }

        private void addWord(int[] bytes, int from, int to, int[] ways) {
            set(wordStart, words, from);
            set(wordEnd, words, to);
            set(wordFirst, words, syllables);
            int first = syllables;
            int behindNucleus = from;
            for (int i = from; i < to; i++) {
                if (i < behindNucleus || !isVowel(at(bytes, i))) {
                    continue;
                }
                int begin = from;
                if (syllables > first) {
                    begin = i - Math.min(at(ways, ONSET), i - behindNucleus);
                    endSyllable(begin, begin - behindNucleus, at(ways, CODA));
                }
                int nucleus = nucleusSize(bytes, i, to, at(ways, TWINS));
                beginSyllable(begin, nucleus);
                behindNucleus = i + nucleus;
            }
            boolean lastUncounted = at(ways, EDGE) == 1 && !isVowel(at(bytes, to - 1));
            int letters = to - behindNucleus - (lastUncounted ? 1 : 0);
            endSyllable(to, letters, at(ways, CODA));
            set(wordSize, words, syllables - first);
            words++;
        }

        private static int nucleusSize(int[] bytes, int i, int wordEnd, int twins) {
            if (i + 1 >= wordEnd) {
                return 1;
            }
            int next = at(bytes, i + 1);
            boolean twin = twins == 1 && (next == 'i' || next == 'u');
            return twin || next == at(bytes, i) ? 2 : 1;
        }

        private void beginSyllable(int begin, int nucleus) {
            set(wordOf, syllables, words);
            set(start, syllables, begin);
            set(moras, syllables, nucleus);
            syllables++;
        }

        private void endSyllable(int to, int letters, int coda) {
            int k = syllables - 1;
            set(end, k, to);
            set(moras, k, at(moras, k) + Math.min(coda, letters));
        }

        private void lookUp(Lexicon lexicon, int[] bytes) {
            for (int k = 0; k < words; k++) {
                int place = lexicon.find(bytes, at(wordStart, k), at(wordEnd, k));
                set(wordMark, k, place == NONE ? NONE : at(lexicon.places, place));
            }
        }

        private boolean isMarked(int word) {
            int mark = at(wordMark, word);
            return mark != NONE && mark < at(wordSize, word);
        }

        private boolean isHeavy(int k) {
            return at(moras, k) >= 2;
        }

        private int heavyOnes() {
            int sum = 0;
            for (int k = 0; k < syllables; k++) {
                if (isHeavy(k)) {
                    sum++;
                }
            }
            return sum;
        }
    }

    /** Up to six texts of WORDS, each with the SYLLABLE that is to have the MAIN BEAT. */
    private static final class Lexicon {
        private final int[] letters = new int[MOST_MARKED * MOST];
        private final int[] lengths = new int[MOST_MARKED];
        private final int[] places = new int[MOST_MARKED];
        private int size;

        private int find(int[] bytes, int from, int to) {
            for (int k = 0; k < size; k++) {
                if (at(lengths, k) == to - from && isText(k, bytes, from, to)) {
                    return k;
                }
            }
            return NONE;
        }

        private boolean isText(int k, int[] bytes, int from, int to) {
            for (int i = from; i < to; i++) {
                if (at(letters, k * MOST + i - from) != at(bytes, i)) {
                    return false;
                }
            }
            return true;
        }

        /** False if the text would be one too many. */
        private boolean add(int[] bytes, int from, int to, int place) {
            int k = find(bytes, from, to);
            if (k == NONE) {
                if (size >= MOST_MARKED) {
                    return false;
                }
                k = size;
                size++;
                set(lengths, k, to - from);
                for (int i = from; i < to; i++) {
                    set(letters, k * MOST + i - from, at(bytes, i));
                }
            }
            set(places, k, place);
            return true;
        }

        private void remove(int k) {
            int last = size - 1;
            for (int i = 0; i < MOST; i++) {
                set(letters, k * MOST + i, at(letters, last * MOST + i));
            }
            set(lengths, k, at(lengths, last));
            set(places, k, at(places, last));
            size = last;
        }
    }

    /** FEET and BEATS of the WORDS of a Cut by some WAYS, and what is HEARD of them. */
    private static final class Stress {
        /** How many SYLLABLES the FOOT has that begins with one; 0 where none begins. */
        private final int[] footSize = new int[MOST];
        private final int[] footBeat = new int[MOST];
        private final int[] footOf = new int[MOST];
        private final int[] beat = new int[MOST];
        private final int[] heardBeat = new int[MOST];
        private final int[] clashing = new int[MOST];
        private final int[] feet = new int[MOST_WORDS];
        private int clashes;
        private int heardClashes;
        private int stuck;
        private int moves;

        private void make(Cut cut, int[] ways) {
            for (int k = 0; k < cut.syllables; k++) {
                set(footSize, k, 0);
                set(footOf, k, NONE);
                set(beat, k, 0);
            }
            for (int word = 0; word < cut.words; word++) {
                int first = at(cut.wordFirst, word);
                int size = at(cut.wordSize, word);
                int to = first + (at(ways, EDGE) == 2 && size > 1 ? size - 1 : size);
                if (at(ways, FROM) == 0) {
                    layForward(cut, ways, first, to);
                } else {
                    layBackward(cut, ways, first, to);
                }
                set(feet, word, numberFeet(first, to));
                if (at(feet, word) == 0) {
                    addFoot(at(ways, MAIN) == 1 ? to - 1 : first, 1, at(ways, SORT));
                    set(feet, word, numberFeet(first, to));
                }
                giveBeats(cut, word, to, at(ways, MAIN));
            }
        }

        private void layForward(Cut cut, int[] ways, int first, int to) {
            int sort = at(ways, SORT);
            int behindFoot = first;
            for (int k = first; k < to; k++) {
                if (k < behindFoot) {
                    continue;
                }
                int size = sizeForward(cut, sort, k, to);
                if (size == 0) {
                    size = at(ways, REST) == 1 ? 1 : 0;
                }
                addFoot(k, size, sort);
                behindFoot = k + size;
            }
        }

        private void layBackward(Cut cut, int[] ways, int first, int to) {
            int sort = at(ways, SORT);
            int foot = to;
            for (int k = to - 1; k >= first; k--) {
                if (k >= foot) {
                    continue;
                }
                int size = sizeBackward(cut, sort, k, first);
                if (size == 0) {
                    size = at(ways, REST) == 1 ? 1 : 0;
                }
                foot = k + 1 - size;
                addFoot(foot, size, sort);
            }
        }

        /** How many SYLLABLES the FOOT has that begins with k; 0 if there can be none. */
        private static int sizeForward(Cut cut, int sort, int k, int to) {
            boolean hasNext = k + 1 < to;
            if (sort != 0 && cut.isHeavy(k)) {
                return 1;
            }
            if (sort == 1) {
                return hasNext && !cut.isHeavy(k + 1) ? 2 : 0;
            }
            return hasNext ? 2 : 0;
        }

        /** How many SYLLABLES the FOOT has that ends with k; 0 if there can be none. */
        private static int sizeBackward(Cut cut, int sort, int k, int first) {
            boolean hasAhead = k > first;
            if (sort == 0) {
                return hasAhead ? 2 : 0;
            }
            boolean lightAhead = hasAhead && !cut.isHeavy(k - 1);
            if (sort == 1) {
                return cut.isHeavy(k) ? 1 : lightAhead ? 2 : 0;
            }
            return lightAhead ? 2 : cut.isHeavy(k) ? 1 : 0;
        }

        private void addFoot(int k, int size, int sort) {
            if (size > 0) {
                set(footSize, k, size);
                set(footBeat, k, sort == 2 ? k + size - 1 : k);
            }
        }

        private int numberFeet(int first, int to) {
            int number = 0;
            for (int k = first; k < to; k++) {
                int size = at(footSize, k);
                if (size > 0) {
                    for (int i = 0; i < size; i++) {
                        set(footOf, k + i, number);
                    }
                    number++;
                }
            }
            return number;
        }

        private void giveBeats(Cut cut, int word, int to, int mainWay) {
            int first = at(cut.wordFirst, word);
            boolean marked = cut.isMarked(word);
            int main = marked ? first + at(cut.wordMark, word) : mainOfFeet(cut, first, to, mainWay);
            for (int k = first; k < to; k++) {
                if (at(footSize, k) > 0) {
                    int place = at(footBeat, k);
                    boolean beside = place == main - 1 || place == main + 1;
                    set(beat, place, marked && beside ? 0 : 1);
                }
            }
            set(beat, main, 2);
        }

        private int mainOfFeet(Cut cut, int first, int to, int mainWay) {
            int main = NONE;
            for (int k = first; k < to; k++) {
                if (at(footSize, k) == 0) {
                    continue;
                }
                int place = at(footBeat, k);
                boolean weighsMore = at(cut.moras, place) > at(cut.moras, main);
                if (main == NONE || mainWay == 1 || mainWay == 2 && weighsMore) {
                    main = place;
                }
            }
            return main;
        }

        private void hear(Cut cut, int window) {
            for (int k = 0; k < cut.syllables; k++) {
                set(heardBeat, k, at(beat, k));
            }
            moves = 0;
            int from = 0;
            // each turn takes a beat away, and one is left in each word
            for (int turn = 0; turn < MOST; turn++) {
                int k = firstLoose(cut, from, window);
                if (k == NONE) {
                    return;
                }
                int place = settle(cut, k, clashesWith(cut, heardBeat, k, window));
                // nothing ahead of here can clash with what has changed, and what is stuck stays so
                from = Math.max(0, place - window);
                moves++;
            }
        }

        /** The SYLLABLE behind k that it clashes with, or NONE. */
        private static int clashesWith(Cut cut, int[] beats, int k, int window) {
            if (at(beats, k) == 0) {
                return NONE;
            }
            for (int i = k + 1; i <= k + window && i < cut.syllables; i++) {
                if (at(beats, i) != 0) {
                    return i;
                }
            }
            return NONE;
        }

        private int firstLoose(Cut cut, int from, int window) {
            for (int k = from; k < cut.syllables; k++) {
                int other = clashesWith(cut, heardBeat, k, window);
                if (other != NONE && !isStuck(cut, k, other)) {
                    return k;
                }
            }
            return NONE;
        }

        private boolean isStuck(Cut cut, int k, int other) {
            return at(heardBeat, k) == 2 && at(heardBeat, other) == 2
                && lesserAhead(cut, k) == NONE && lesserBehind(cut, other) == NONE;
        }

        /** Takes one of two clashing beats away or moves it: the first place that has changed. */
        private int settle(Cut cut, int k, int other) {
            int one = at(heardBeat, k);
            int two = at(heardBeat, other);
            if (one < two || one == 1 && two == 1) {
                set(heardBeat, k, 0);
                return k;
            }
            if (one > two) {
                set(heardBeat, other, 0);
                return other;
            }
            int ahead = lesserAhead(cut, k);
            if (ahead != NONE) {
                set(heardBeat, ahead, 2);
                set(heardBeat, k, 0);
                return ahead;
            }
            set(heardBeat, lesserBehind(cut, other), 2);
            set(heardBeat, other, 0);
            return other;
        }

        private int lesserAhead(Cut cut, int k) {
            int first = at(cut.wordFirst, at(cut.wordOf, k));
            for (int i = k - 1; i >= first; i--) {
                if (at(heardBeat, i) == 1) {
                    return i;
                }
            }
            return NONE;
        }

        private int lesserBehind(Cut cut, int k) {
            int word = at(cut.wordOf, k);
            int to = at(cut.wordFirst, word) + at(cut.wordSize, word);
            for (int i = k + 1; i < to; i++) {
                if (at(heardBeat, i) == 1) {
                    return i;
                }
            }
            return NONE;
        }

        /** Apart from hear(), as trials of other WAYS have no use for it. */
        private void listClashes(Cut cut, int window) {
            clashes = 0;
            heardClashes = 0;
            stuck = 0;
            for (int k = 0; k < cut.syllables; k++) {
                if (clashesWith(cut, beat, k, window) != NONE) {
                    set(clashing, clashes, k);
                    clashes++;
                }
                int other = clashesWith(cut, heardBeat, k, window);
                if (other != NONE) {
                    heardClashes++;
                    if (isStuck(cut, k, other)) {
                        stuck++;
                    }
                }
            }
        }

        private int mainBeat(Cut cut, int[] beats, int word) {
            int first = at(cut.wordFirst, word);
            int to = first + at(cut.wordSize, word);
            for (int k = first; k < to; k++) {
                if (at(beats, k) == 2) {
                    return k;
                }
            }
            return NONE;
        }

        private int likeTold(Cut cut, int[] told) {
            int sum = 0;
            for (int k = 0; k < cut.syllables; k++) {
                if (at(heardBeat, k) == at(told, k)) {
                    sum++;
                }
            }
            return sum;
        }
    }

    /** A row of bytes, ints or floats, or LOST. Its rows stay, so that a new one costs no room. */
    private static final class Sheet {
        private final int[] whole = new int[MOST];
        private final float[] parts = new float[MOST];
        private boolean lost = true;
        private int form;
        private int size;

        private void renew(int newForm, int n) {
            lost = false;
            form = newForm;
            size = n;
            for (int i = 0; i < n; i++) {
                set(whole, i, 0);
                setPart(i, 0f);
            }
        }

        /** Whether n items stand from i on. */
        private boolean has(int i, int n) {
            return i >= 0 && n >= 0 && i <= size && n <= size - i;
        }

        /** Item i becomes v; of floats v by divisor. */
        private void place(int i, int v, int divisor) {
            if (form == FLOATS) {
                setPart(i, divisor == 0 ? 0f : (float) v / (float) divisor);
            } else {
                set(whole, i, form == BYTES ? (byte) v : v);
            }
        }

        private int item(int i) {
            return form == FLOATS ? (int) (8f * partAt(i)) : at(whole, i);
        }

        private void take(Sheet from, int i, int j, int n) {
            for (int step = 0; step < n; step++) {
                // backward where items move behind themselves: each is taken as it was
                int k = i < j ? n - 1 - step : step;
                if (form == FLOATS) {
                    setPart(j + k, from.partAt(i + k));
                } else {
                    set(whole, j + k, at(from.whole, i + k));
                }
            }
        }

        private float partAt(int i) {
            return i >= 0 && i < parts.length ? parts[i] : 0f;
        }

        private void setPart(int i, float v) {
            if (i >= 0 && i < parts.length) {
                parts[i] = v;
            }
        }
    }
}
