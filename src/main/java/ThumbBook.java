import java.util.Arrays;
import java.util.NoSuchElementException;

/** Books whose leaves grow darker where they are turned, and what may be said of their readers. */
public final class ThumbBook {
    public static final int NONE = -1;

    private static final int BOOKS = 6;
    private static final int WAYS = 6;
    private static final int KINDS = 12;
    private static final int LEAVES = 40;
    private static final int PLACES = 20;
    private static final int LAST_YEAR = 500;
    private static final int READERS = 8;
    private static final int WASHINGS = 4;
    private static final int TRIALS = 20;
    private static final int TAPE = 500;
    private static final int FEED = 20;
    private static final int GROUPS = 4;
    private static final int TIMES = 100;
    private static final int DARKEST = 999999;

    private static final int FAULTY_TEXTS = 0;
    private static final int REFUSED_READINGS = 1;
    private static final int REFUSED_READERS = 2;
    private static final int REFUSED_TRIALS = 3;
    private static final int STATUSES = 4;

    private final Script script = new Script();
    private final Book[] shelf = new Book[BOOKS];
    private final Way[] ways = new Way[WAYS];
    private Law rules = new Law();
    private Book draftBook = new Book();
    private Way draftWay = new Way();
    private Law draftLaw = new Law();
    private final Trials trials = new Trials();
    private final int[] status = new int[STATUSES];
    private final int[] keptStatus = new int[STATUSES];
    private boolean hasImage;
    private final Undone one = new Undone();
    private final Undone two = new Undone();
    private final Chance chance = new Chance();
    private final Humps parting = new Humps();
    private final Fit fit = new Fit();
    private final Order lying = new Order();
    private final Glass trialGlass = new Glass();
    private final int[] shades = new int[LEAVES];

    public ThumbBook() {
        for (int i = 0; i < BOOKS; i++) {
            shelf[i] = new Book();
        }
        for (int i = 0; i < WAYS; i++) {
            ways[i] = new Way();
        }
    }

    // ---- the tape and its three languages

    public int feed(int a, int b, int c, int d, int e) {
        if (script.size + FEED > TAPE) {
            return NONE;
        }
        script.put(a);
        script.put(b);
        script.put(c);
        script.put(d);
        script.put(e);
        return script.size;
    }

    public int book(int book, int n) throws NoSuchElementException, IllegalArgumentException {
        Book old = bookAt(book);
        checkOnTape(n);
        script.begin(n);
        draftBook.write(script);
        if (script.error == 0) {
            // What the old one held is wiped when it is written next, so the two only change places.
            shelf[book] = draftBook;
            draftBook = old;
        }
        return written();
    }

    public int law(int n) throws IllegalArgumentException {
        checkOnTape(n);
        script.begin(n);
        draftLaw.write(script);
        if (script.error == 0) {
            Law old = rules;
            rules = draftLaw;
            draftLaw = old;
        }
        return written();
    }

    public int way(int way, int n) throws NoSuchElementException, IllegalArgumentException {
        Way old = wayAt(way);
        checkOnTape(n);
        script.begin(n);
        draftWay.write(script);
        if (script.error == 0) {
            ways[way] = draftWay;
            draftWay = old;
        }
        return written();
    }

    public int fault() {
        return script.errorPlace;
    }

    // ---- what was told

    public int count(int what) throws NoSuchElementException {
        switch (what) {
            case 0:
                return rules.darkens;
            case 1:
                return rules.goes;
            case 2:
                return rules.slip;
            case 3:
                return script.size;
            case 4:
                return trials.held;
            default:
                return statusAt(what - 5);
        }
    }

    public int about(int book, int what) throws NoSuchElementException {
        Book b = bookAt(book);
        switch (what) {
            case 0:
                return b.leaves;
            case 1:
                return b.texts;
            case 2:
                return b.readers;
            case 3:
                return b.hair;
            case 4:
                return b.isKnown() ? 1 : 0;
            case 5:
                return b.washings;
            case 6:
                return b.kinds;
            default:
                throw new NoSuchElementException("what");
        }
    }

    public int leaf(int book, int leaf, int what) throws NoSuchElementException {
        Book b = bookWithLeaf(book, leaf);
        switch (what) {
            case 0:
                return b.kindOf[leaf];
            case 1:
                return b.textOf[leaf];
            case 2:
                return b.placeOf[leaf];
            case 3:
                return b.bornOf[leaf];
            case 4:
                return b.yearOf[leaf];
            case 5:
                return b.spiltOn[leaf];
            default:
                throw new NoSuchElementException("what");
        }
    }

    public int turnings(int way, int kind, int place) throws NoSuchElementException {
        Way w = wayAt(way);
        checkKind(kind);
        if (place < 0 || place >= PLACES) {
            throw new NoSuchElementException("place");
        }
        return w.yearly(kind, place);
    }

    // ---- readers and dirt

    public int reader(int book, int way, int from, int to) throws NoSuchElementException {
        Book b = bookAt(book);
        wayAt(way);
        if (b.readers >= READERS || from < 0 || to > LAST_YEAR || from > to) {
            status[REFUSED_READERS]++;
            return NONE;
        }
        b.addReader(way, from, to);
        return b.readers;
    }

    public int gone(int book) throws NoSuchElementException {
        Book b = bookAt(book);
        if (b.readers < 1) {
            return NONE;
        }
        b.readers--;
        return b.readers;
    }

    public int dirt(int book, int leaf, int what) throws NoSuchElementException {
        Book b = bookWithLeaf(book, leaf);
        switch (what) {
            case 0:
                return b.ownDirt(ways, rules, leaf);
            case 1:
                b.fillAll(shades, ways, rules);
                return shades[leaf];
            case 2:
                b.fillAll(shades, ways, rules);
                return b.bare(leaf) + shades[leaf];
            case 3:
                return b.turned(ways, leaf, 0, LAST_YEAR);
            default:
                throw new NoSuchElementException("what");
        }
    }

    // ---- readings by the glass

    public int drawn(int book, int seed) throws NoSuchElementException {
        Book b = bookAt(book);
        fillShades(b);
        int at = seed;
        int refused = 0;
        for (int leaf = 0; leaf < b.leaves; leaf++) {
            at = stepped(at);
            if (!b.now.take(leaf, reading(leaf, at), rules.slip)) {
                refused++;
            }
        }
        status[REFUSED_READINGS] += refused;
        return refused;
    }

    public boolean read(int book, int leaf, int shade) throws NoSuchElementException {
        Book b = bookWithLeaf(book, leaf);
        if (b.now.take(leaf, shade, rules.slip)) {
            return true;
        }
        status[REFUSED_READINGS]++;
        return false;
    }

    public int bounds(int book, int leaf, int what) throws NoSuchElementException {
        Book b = bookWithLeaf(book, leaf);
        if (what < 0 || what > 7 || !b.now.wasRead(leaf)) {
            throw new NoSuchElementException("what");
        }
        if (what < 2) {
            return what == 0 ? b.now.low[leaf] : b.now.high[leaf];
        }
        checkAheadRead(b, leaf);
        one.fill(b, b.now, rules);
        switch (what) {
            case 2:
                return one.low[leaf];
            case 3:
                return one.high[leaf];
            case 4:
                return one.fewest[leaf];
            case 5:
                return one.most[leaf];
            case 6:
                return one.midst[leaf];
            default:
                return one.isStrange(leaf) ? 1 : 0;
        }
    }

    // ---- what a known book says

    public int light(int book, int kind) throws NoSuchElementException {
        knownAt(book, one);
        checkHeld(one, kind);
        return one.lightOf[kind];
    }

    public int sleepy(int book, int what) throws NoSuchElementException {
        Book b = knownAt(book, one);
        switch (what) {
            case 0:
                return one.pairs(b, true);
            case 1:
                return one.pairs(b, false);
            case 2:
                return chance.ofAtLeast(b, one.pairs(b, true));
            default:
                throw new NoSuchElementException("what");
        }
    }

    public long humps(int book, int groups) throws NoSuchElementException {
        knownAt(book, one);
        return partedInto(groups);
    }

    public int hump(int book, int groups, int kind) throws NoSuchElementException {
        knownAt(book, one);
        checkHeld(one, kind);
        partedInto(groups);
        return parting.groupOf(kind);
    }

    public int fitted(int book, int way, int other) throws NoSuchElementException {
        Book b = knownAt(book, one);
        Way first = wayAt(way);
        Way second = other == NONE ? null : wayAt(other);
        return fit.search(b, one.midst, first, second);
    }

    public int years(int what) throws NoSuchElementException {
        if (!fit.made || what < 0 || what > 1) {
            throw new NoSuchElementException("what");
        }
        return what == 0 ? fit.yearsFirst : fit.yearsSecond;
    }

    public int whose(int book) throws NoSuchElementException {
        Book b = knownAt(book, one);
        return ownerBy(b, one);
    }

    public int order(int book, int what) throws NoSuchElementException {
        Book b = knownAt(book, one);
        lying.fill(b, rules);
        if (what == 0) {
            return lying.want();
        }
        lying.findMove();
        switch (what) {
            case 1:
                return lying.movedLeaf;
            case 2:
                return lying.movedTo;
            case 3:
                return lying.wantThen;
            default:
                throw new NoSuchElementException("what");
        }
    }

    public int falls(int book, int i) throws NoSuchElementException {
        Book b = knownAt(book, one);
        int found = 0;
        for (int k = 0; k + 1 < b.leaves; k++) {
            if (one.opensAt(b, k)) {
                if (found == i) {
                    return k;
                }
                found++;
            }
        }
        if (i != NONE) {
            throw new NoSuchElementException("i");
        }
        return found;
    }

    // ---- trials on blanks

    public int blank(int turnings, int shade) {
        if (!trials.add(turnings, shade)) {
            status[REFUSED_TRIALS]++;
            return NONE;
        }
        return trials.held;
    }

    public int clear() {
        int were = trials.held;
        trials.held = 0;
        return were;
    }

    public int turn(int what) throws NoSuchElementException {
        if (what < 0 || what > 1) {
            throw new NoSuchElementException("what");
        }
        if (!trials.agree(rules.slip)) {
            return NONE;
        }
        return what == 0 ? trials.least(rules.slip) : trials.greatest(rules.slip);
    }

    // ---- books joined

    public int town(int kind) throws NoSuchElementException {
        checkKind(kind);
        int sum = 0;
        for (int i = 0; i < BOOKS; i++) {
            if (shelf[i].isKnown()) {
                one.fill(shelf[i], shelf[i].now, rules);
                sum += one.lightOf[kind];
            }
        }
        return sum;
    }

    public int alike(int book, int other) throws NoSuchElementException {
        knownAt(book, one);
        knownAt(other, two);
        return one.likeness(two);
    }

    public int nearest(int book) throws NoSuchElementException {
        knownAt(book, one);
        int best = NONE;
        int most = 0;
        for (int i = 0; i < BOOKS; i++) {
            if (i != book && shelf[i].isKnown()) {
                two.fill(shelf[i], shelf[i].now, rules);
                int likeness = one.likeness(two);
                if (best == NONE || likeness > most) {
                    best = i;
                    most = likeness;
                }
            }
        }
        return best;
    }

    // ---- what may be said

    public int sure(int book, int kind, int other) throws NoSuchElementException {
        Book b = knownAt(book, one);
        checkHeld(one, kind);
        checkHeld(one, other);
        if (one.surely(b, kind, other)) {
            return 1;
        }
        return one.surely(b, other, kind) ? -1 : 0;
    }

    public int before(int book, int leaf, int off, int what) throws NoSuchElementException, IllegalArgumentException {
        Book b = bookWithLeaf(book, leaf);
        if (what < 0 || what > 1 || !b.now.wasRead(leaf)) {
            throw new NoSuchElementException("what");
        }
        checkAheadRead(b, leaf);
        if (off < 0 || off > 99) {
            throw new IllegalArgumentException("off");
        }
        one.fill(b, b.now, rules);
        int least = Math.max(0, one.low[leaf]);
        int greatest = one.high[leaf];
        if (least > greatest) {
            return NONE;
        }
        int stays = 100 - off;
        // What is cut down to the greatest is all below what makes one more.
        return what == 0 ? cutUp(100L * least, stays) : cutUp(100L * (greatest + 1L), stays) - 1;
    }

    public int told(int book, int way, int times, int seed) throws NoSuchElementException, IllegalArgumentException {
        Book b = bookAt(book);
        wayAt(way);
        if (times < 1 || times > TIMES) {
            throw new IllegalArgumentException("times");
        }
        if (b.leaves < 1) {
            return 0;
        }
        fillShades(b);
        int at = seed;
        int hits = 0;
        for (int i = 0; i < times; i++) {
            at = drawTrial(b, at);
            if (trialGlass.readAll(b.leaves)) {
                one.fill(b, trialGlass, rules);
                hits += ownerBy(b, one) == way ? 1 : 0;
            }
        }
        return hits;
    }

    public int next(int book) throws NoSuchElementException {
        Book b = bookAt(book);
        for (int leaf = 0; leaf < b.leaves; leaf++) {
            if (!b.now.wasRead(leaf)) {
                return leaf;
            }
        }
        one.fill(b, b.now, rules);
        return one.widest(b);
    }

    // ---- the image

    public void image() {
        for (int i = 0; i < BOOKS; i++) {
            shelf[i].kept.copy(shelf[i].now);
        }
        System.arraycopy(status, 0, keptStatus, 0, STATUSES);
        hasImage = true;
    }

    public boolean restore() {
        if (!hasImage) {
            return false;
        }
        for (int i = 0; i < BOOKS; i++) {
            shelf[i].now.copy(shelf[i].kept);
        }
        System.arraycopy(keptStatus, 0, status, 0, STATUSES);
        return true;
    }

    // ---- looking at arguments

    private Book bookAt(int book) {
        if (book < 0 || book >= BOOKS) {
            throw new NoSuchElementException("book");
        }
        return shelf[book];
    }

    private Book bookWithLeaf(int book, int leaf) {
        Book b = bookAt(book);
        if (leaf < 0 || leaf >= b.leaves) {
            throw new NoSuchElementException("leaf");
        }
        return b;
    }

    private Book knownAt(int book, Undone undone) {
        Book b = bookAt(book);
        if (!b.isKnown()) {
            throw new NoSuchElementException("not known");
        }
        undone.fill(b, b.now, rules);
        return b;
    }

    private Way wayAt(int way) {
        if (way < 0 || way >= WAYS) {
            throw new NoSuchElementException("way");
        }
        return ways[way];
    }

    private int statusAt(int which) {
        if (which < 0 || which >= STATUSES) {
            throw new NoSuchElementException("what");
        }
        return status[which];
    }

    private static void checkKind(int kind) {
        if (kind < 0 || kind >= KINDS) {
            throw new NoSuchElementException("kind");
        }
    }

    private static void checkHeld(Undone undone, int kind) {
        if (kind < 0 || kind >= KINDS || undone.leavesOf[kind] < 1) {
            throw new NoSuchElementException("kind");
        }
    }

    private static void checkAheadRead(Book b, int leaf) {
        if (leaf > 0 && !b.now.wasRead(leaf - 1)) {
            throw new NoSuchElementException("the leaf ahead");
        }
    }

    private void checkOnTape(int n) {
        if (n < 0 || n > script.size) {
            throw new IllegalArgumentException("n");
        }
    }

    // ---- steps that several calls share

    private int written() {
        script.size = 0;
        if (script.error != 0) {
            status[FAULTY_TEXTS]++;
        }
        return script.error;
    }

    private long partedInto(int groups) {
        parting.sort(one);
        if (groups < 1 || groups > GROUPS || groups > parting.held) {
            throw new NoSuchElementException("groups");
        }
        return parting.part(groups);
    }

    private int ownerBy(Book b, Undone undone) {
        int best = NONE;
        long least = 0;
        for (int w = 0; w < WAYS; w++) {
            if (ways[w].tellsSome()) {
                long apart = undone.apartFrom(b, ways[w]);
                if (best == NONE || apart < least) {
                    best = w;
                    least = apart;
                }
            }
        }
        return best;
    }

    private void fillShades(Book b) {
        b.fillAll(shades, ways, rules);
        for (int leaf = 0; leaf < b.leaves; leaf++) {
            shades[leaf] += b.bare(leaf);
        }
    }

    private int drawTrial(Book b, int seed) {
        int at = seed;
        trialGlass.wipe();
        for (int leaf = 0; leaf < b.leaves; leaf++) {
            at = stepped(at);
            trialGlass.take(leaf, reading(leaf, at), rules.slip);
        }
        return at;
    }

    private int reading(int leaf, int seed) {
        int spread = 2 * rules.slip + 1;
        int bits = (seed >>> 16) & 32767;
        return Math.max(0, shades[leaf] + Math.floorMod(bits, spread < 1 ? 1 : spread) - rules.slip);
    }

    private static int stepped(int seed) {
        return seed * 1103515245 + 12345;
    }

    private static int cutDown(long part, long whole) {
        return whole < 1 ? 0 : (int) Math.floorDiv(part, whole);
    }

    private static int cutUp(long part, long whole) {
        return whole < 1 ? 0 : (int) -Math.floorDiv(-part, whole);
    }

    private static int compared(int a, int b) {
        return a > b ? 1 : a < b ? -1 : 0;
    }

    /** The tape, and the tokens of the text at its front; after an error nothing more is taken. */
    private static final class Script {
        private static final int END = 0;
        private static final int WORD = 1;
        private static final int NUMBER = 2;
        private static final int SIGN = 3;
        private static final int OTHER = 4;
        private static final int DIGITS = 4;

        int size;
        int error;
        int errorPlace = NONE;
        int start;
        int lastStart;
        private final int[] bytes = new int[TAPE];
        private int length;
        private int stop;
        private int sort;

        void put(int number) {
            for (int shift = 24; shift >= 0; shift -= 8) {
                if (size < TAPE) {
                    bytes[size] = (number >>> shift) & 255;
                    size++;
                }
            }
        }

        void begin(int n) {
            length = n;
            error = 0;
            errorPlace = NONE;
            lastStart = 0;
            stop = 0;
            step();
        }

        boolean hasMore() {
            return error == 0 && sort != END;
        }

        boolean takes(String word) {
            if (error != 0 || sort != WORD || !spells(word)) {
                return false;
            }
            lastStart = start;
            step();
            return true;
        }

        int number(int least, int most) {
            if (error != 0) {
                return least;
            }
            if (sort != NUMBER) {
                blame(1, start);
                return least;
            }
            int value = digits();
            if (value < least || value > most) {
                blame(2, start);
                return least;
            }
            lastStart = start;
            step();
            return value;
        }

        void endLine() {
            if (error != 0) {
                return;
            }
            if (sort == SIGN) {
                step();
            } else {
                blame(1, start);
            }
        }

        void blame(int code, int place) {
            if (error == 0) {
                error = code;
                errorPlace = place;
            }
        }

        private void step() {
            int at = stop;
            while (at < length && (bytes[at] == 32 || bytes[at] == 10)) {
                at++;
            }
            start = at;
            sort = END;
            if (at < length) {
                sort = sortOf(bytes[at]);
                at++;
                while (at < length && (sort == WORD || sort == NUMBER) && sortOf(bytes[at]) == sort) {
                    at++;
                }
            }
            stop = at;
        }

        private static int sortOf(int sign) {
            if (sign >= 'a' && sign <= 'z') {
                return WORD;
            }
            if (sign >= '0' && sign <= '9') {
                return NUMBER;
            }
            return sign == ';' ? SIGN : OTHER;
        }

        private boolean spells(String word) {
            if (word.length() != stop - start) {
                return false;
            }
            for (int i = 0; i < word.length(); i++) {
                if (bytes[start + i] != word.charAt(i)) {
                    return false;
                }
            }
            return true;
        }

        private int digits() {
            if (stop - start > DIGITS) {
                return Integer.MAX_VALUE;
            }
            int value = 0;
            for (int at = start; at < stop; at++) {
                value = 10 * value + bytes[at] - '0';
            }
            return value;
        }
    }

    /** How a turning darkens, what goes through, and how a glass slips. */
    private static final class Law {
        private static final int TURN = 1;
        private static final int GOES = 2;
        private static final int SLIP = 4;

        int darkens = 2;
        int goes = 20;
        int slip = 3;
        private int toldLines;

        void write(Script s) {
            darkens = 2;
            goes = 20;
            slip = 3;
            toldLines = 0;
            for (int i = 0; i < TAPE && s.hasMore(); i++) {
                writeLine(s);
                s.endLine();
            }
        }

        private void writeLine(Script s) {
            if (s.takes("turn")) {
                once(s, TURN);
                darkens = s.number(1, 50);
            } else if (s.takes("goes")) {
                once(s, GOES);
                goes = s.number(0, 90);
            } else if (s.takes("slip")) {
                once(s, SLIP);
                slip = s.number(0, 50);
            } else {
                s.blame(1, s.start);
            }
        }

        private void once(Script s, int line) {
            if ((toldLines & line) != 0) {
                s.blame(5, s.lastStart);
            }
            toldLines |= line;
        }

        int through(int all) {
            return (int) ((long) all * goes / 100);
        }
    }

    /** A reader's way: how often he turns the leaves of a kind in a year. */
    private static final class Way {
        private final int[] often = new int[KINDS];
        private final int[] fewer = new int[KINDS];

        void write(Script s) {
            Arrays.fill(often, 0);
            Arrays.fill(fewer, 0);
            for (int i = 0; i < TAPE && s.hasMore(); i++) {
                writeLine(s);
                s.endLine();
            }
        }

        private void writeLine(Script s) {
            if (!s.takes("kind")) {
                s.blame(1, s.start);
                return;
            }
            int kind = s.number(0, KINDS - 1);
            if (often[kind] > 0) {
                s.blame(5, s.lastStart);
            }
            int first = s.number(1, 99);
            int less = s.takes("sleepy") ? s.number(0, 50) : 0;
            if (s.error == 0) {
                often[kind] = first;
                fewer[kind] = less;
            }
        }

        boolean tellsSome() {
            for (int kind = 0; kind < KINDS; kind++) {
                if (often[kind] > 0) {
                    return true;
                }
            }
            return false;
        }

        int yearly(int kind, int place) {
            int stays = 100 - fewer[kind] * place;
            return stays < 0 ? 0 : often[kind] * stays / 100;
        }
    }

    /** The bounds in which the shades of a book's leaves lie by all readings. */
    private static final class Glass {
        // The lower bound of a leaf that wasn't read is NONE.
        final int[] low = new int[LEAVES];
        final int[] high = new int[LEAVES];

        Glass() {
            Arrays.fill(low, NONE);
        }

        void wipe() {
            Arrays.fill(low, NONE);
            Arrays.fill(high, 0);
        }

        void copy(Glass from) {
            System.arraycopy(from.low, 0, low, 0, LEAVES);
            System.arraycopy(from.high, 0, high, 0, LEAVES);
        }

        boolean wasRead(int leaf) {
            return low[leaf] != NONE;
        }

        boolean readAll(int leaves) {
            for (int leaf = 0; leaf < leaves; leaf++) {
                if (!wasRead(leaf)) {
                    return false;
                }
            }
            return leaves > 0;
        }

        boolean take(int leaf, int shade, int slip) {
            if (shade < 0 || shade > DARKEST) {
                return false;
            }
            int from = Math.max(0, shade - slip);
            int to = shade + slip;
            if (wasRead(leaf)) {
                from = Math.max(from, low[leaf]);
                to = Math.min(to, high[leaf]);
            }
            if (from > to) {
                return false;
            }
            low[leaf] = from;
            high[leaf] = to;
            return true;
        }
    }

    /** A book as it was told, with its readers and readings. */
    private static final class Book {
        int leaves;
        int texts;
        int kinds;
        int hair;
        int washings;
        int readers;
        final int[] kindOf = new int[LEAVES];
        final int[] textOf = new int[LEAVES];
        final int[] placeOf = new int[LEAVES];
        final int[] bornOf = new int[LEAVES];
        final int[] yearOf = new int[LEAVES];
        final int[] spiltOn = new int[LEAVES];
        final Glass now = new Glass();
        // The image's part lies here, so that a book told anew has none of its own accord.
        final Glass kept = new Glass();
        private final int[] washYear = new int[WASHINGS];
        private final int[] washOff = new int[WASHINGS];
        private final int[] readerWay = new int[READERS];
        private final int[] readerFrom = new int[READERS];
        private final int[] readerTo = new int[READERS];

        void write(Script s) {
            wipe();
            for (int i = 0; i < TAPE && s.hasMore(); i++) {
                writeLine(s);
                s.endLine();
            }
        }

        private void wipe() {
            leaves = 0;
            texts = 0;
            kinds = 0;
            hair = 0;
            washings = 0;
            readers = 0;
            now.wipe();
            kept.wipe();
        }

        private void writeLine(Script s) {
            if (s.takes("text")) {
                writeText(s);
            } else if (s.takes("hair")) {
                hair = s.number(0, 100);
            } else if (s.takes("spilt")) {
                writeSpilt(s);
            } else if (s.takes("washed")) {
                writeWashed(s);
            } else {
                s.blame(1, s.start);
            }
        }

        private void writeText(Script s) {
            int kind = s.number(0, KINDS - 1);
            int more = s.number(1, PLACES);
            if (leaves + more > LEAVES) {
                s.blame(2, s.lastStart);
            }
            int born = s.takes("born") ? s.number(0, 200) : 40;
            int year = s.takes("later") ? s.number(0, LAST_YEAR) : 0;
            if (s.error != 0) {
                return;
            }
            for (int place = 0; place < more && leaves < LEAVES; place++) {
                kindOf[leaves] = kind;
                textOf[leaves] = texts;
                placeOf[leaves] = place;
                bornOf[leaves] = born;
                yearOf[leaves] = year;
                spiltOn[leaves] = 0;
                leaves++;
            }
            texts++;
            kinds |= 1 << kind;
        }

        private void writeSpilt(Script s) {
            int leaf = s.number(0, 9999);
            if (leaf >= leaves) {
                s.blame(3, s.lastStart);
            } else if (spiltOn[leaf] > 0) {
                s.blame(5, s.lastStart);
            }
            int shade = s.number(1, 999);
            if (s.error == 0 && leaf < leaves) {
                spiltOn[leaf] = shade;
            }
        }

        private void writeWashed(Script s) {
            if (washings >= WASHINGS) {
                s.blame(2, s.lastStart);
            }
            int year = s.number(0, LAST_YEAR);
            if (washings > 0 && year <= washYear[washings - 1]) {
                s.blame(4, s.lastStart);
            }
            int off = s.number(1, 99);
            if (s.error == 0 && washings < WASHINGS) {
                washYear[washings] = year;
                washOff[washings] = off;
                washings++;
            }
        }

        void addReader(int way, int from, int to) {
            if (readers < READERS) {
                readerWay[readers] = way;
                readerFrom[readers] = from;
                readerTo[readers] = to;
                readers++;
            }
        }

        boolean isKnown() {
            return now.readAll(leaves);
        }

        /** How dark a leaf is without any dirt: hair is had at birth, so it goes with the leaf's number. */
        int bare(int leaf) {
            return bornOf[leaf] + (leaf % 2 == 1 ? hair : 0);
        }

        int turned(Way[] ways, int leaf, int from, int to) {
            int bound = Math.max(from, yearOf[leaf]);
            int sum = 0;
            for (int r = 0; r < readers; r++) {
                int first = Math.max(bound, readerFrom[r]);
                int last = Math.min(to, readerTo[r]);
                if (first <= last) {
                    sum += (last - first + 1) * ways[readerWay[r]].yearly(kindOf[leaf], placeOf[leaf]);
                }
            }
            return sum;
        }

        int ownDirt(Way[] ways, Law law, int leaf) {
            // Only a washing cuts, so the years between two of them may be taken together.
            int own = 0;
            int from = 0;
            for (int w = 0; w < washings; w++) {
                own += law.darkens * turned(ways, leaf, from, washYear[w]);
                own = (int) ((long) own * (100 - washOff[w]) / 100);
                from = washYear[w] + 1;
            }
            return own + law.darkens * turned(ways, leaf, from, LAST_YEAR);
        }

        void fillAll(int[] row, Way[] ways, Law law) {
            int ahead = 0;
            for (int leaf = 0; leaf < leaves && leaf < row.length; leaf++) {
                ahead = ownDirt(ways, law, leaf) + spiltOn[leaf] + law.through(ahead);
                row[leaf] = ahead;
            }
        }

        int bareLow(Glass glass, int leaf) {
            return Math.max(0, glass.low[leaf] - bare(leaf));
        }

        int bareHigh(Glass glass, int leaf) {
            return Math.max(0, glass.high[leaf] - bare(leaf));
        }
    }

    /** What is had of each leaf and kind of a book when what went through is undone. */
    private static final class Undone {
        final int[] low = new int[LEAVES];
        final int[] high = new int[LEAVES];
        final int[] fewest = new int[LEAVES];
        final int[] most = new int[LEAVES];
        final int[] midst = new int[LEAVES];
        final int[] lightOf = new int[KINDS];
        final int[] leavesOf = new int[KINDS];
        private final int[] makes = new int[KINDS];

        void fill(Book b, Glass glass, Law law) {
            for (int leaf = 0; leaf < b.leaves; leaf++) {
                boolean ready = glass.wasRead(leaf) && (leaf == 0 || glass.wasRead(leaf - 1));
                fillLeaf(b, glass, law, leaf, ready);
            }
            fillLights(b);
        }

        private void fillLeaf(Book b, Glass glass, Law law, int leaf, boolean ready) {
            low[leaf] = 0;
            high[leaf] = 0;
            if (ready) {
                int mostThrough = leaf == 0 ? 0 : law.through(b.bareHigh(glass, leaf - 1));
                int leastThrough = leaf == 0 ? 0 : law.through(b.bareLow(glass, leaf - 1));
                low[leaf] = b.bareLow(glass, leaf) - mostThrough - b.spiltOn[leaf];
                high[leaf] = b.bareHigh(glass, leaf) - leastThrough - b.spiltOn[leaf];
            }
            fewest[leaf] = cutUp(Math.max(0, low[leaf]), law.darkens);
            most[leaf] = cutDown(high[leaf], law.darkens);
            midst[leaf] = isStrange(leaf) ? 0 : fewest[leaf] + most[leaf];
        }

        private void fillLights(Book b) {
            Arrays.fill(lightOf, 0);
            Arrays.fill(leavesOf, 0);
            for (int leaf = 0; leaf < b.leaves; leaf++) {
                lightOf[b.kindOf[leaf]] += midst[leaf];
                leavesOf[b.kindOf[leaf]]++;
            }
            for (int kind = 0; kind < KINDS; kind++) {
                lightOf[kind] = cutDown(lightOf[kind], 2L * leavesOf[kind]);
            }
        }

        boolean isStrange(int leaf) {
            return fewest[leaf] > most[leaf];
        }

        int pairs(Book b, boolean laterLess) {
            int found = 0;
            for (int early = 0; early < b.leaves; early++) {
                for (int late = early + 1; late < b.leaves; late++) {
                    int way = compared(midst[early], midst[late]);
                    if (b.textOf[early] == b.textOf[late] && way == (laterLess ? 1 : -1)) {
                        found++;
                    }
                }
            }
            return found;
        }

        /** How far the lights lie from what a way would make, each by the other's sum. */
        long apartFrom(Book b, Way way) {
            Arrays.fill(makes, 0);
            for (int leaf = 0; leaf < b.leaves; leaf++) {
                makes[b.kindOf[leaf]] += way.yearly(b.kindOf[leaf], b.placeOf[leaf]);
            }
            long allMade = 0;
            long allLights = 0;
            for (int kind = 0; kind < KINDS; kind++) {
                makes[kind] = cutDown(makes[kind], leavesOf[kind]);
                allMade += makes[kind];
                allLights += lightOf[kind];
            }
            long sum = 0;
            for (int kind = 0; kind < KINDS; kind++) {
                sum += Math.abs(lightOf[kind] * allMade - makes[kind] * allLights);
            }
            return sum;
        }

        boolean opensAt(Book b, int k) {
            int least = Math.min(fewest[k], fewest[k + 1]);
            for (int leaf = 0; leaf < b.leaves; leaf++) {
                boolean theirs = b.textOf[leaf] == b.textOf[k] || b.textOf[leaf] == b.textOf[k + 1];
                if (theirs && leaf != k && leaf != k + 1 && most[leaf] >= least) {
                    return false;
                }
            }
            return true;
        }

        int likeness(Undone other) {
            int sum = 0;
            for (int a = 0; a < KINDS; a++) {
                for (int b = a + 1; b < KINDS; b++) {
                    if (bothHave(other, a) && bothHave(other, b)) {
                        sum += compared(lightOf[a], lightOf[b]) * compared(other.lightOf[a], other.lightOf[b]);
                    }
                }
            }
            return sum;
        }

        private boolean bothHave(Undone other, int kind) {
            return leavesOf[kind] > 0 && other.leavesOf[kind] > 0;
        }

        boolean surely(Book b, int kind, int other) {
            long least = 0;
            long greatest = 0;
            for (int leaf = 0; leaf < b.leaves; leaf++) {
                if (!isStrange(leaf)) {
                    least += b.kindOf[leaf] == kind ? fewest[leaf] : 0;
                    greatest += b.kindOf[leaf] == other ? most[leaf] : 0;
                }
            }
            return least * leavesOf[other] > greatest * leavesOf[kind];
        }

        int widest(Book b) {
            int best = NONE;
            int width = NONE;
            for (int leaf = 0; leaf < b.leaves; leaf++) {
                if (isStrange(leaf)) {
                    return leaf;
                }
                if (most[leaf] - fewest[leaf] > width) {
                    width = most[leaf] - fewest[leaf];
                    best = leaf;
                }
            }
            return best;
        }
    }

    /** The chance of so many sleepy pairs, if all orders of a text's leaves were alike. */
    private static final class Chance {
        // Two texts of 20 leaves have the most pairs, 190 each.
        private static final int PAIRS = 380;

        private final int[] by = new int[PAIRS + 1];
        private final int[] then = new int[PAIRS + 1];

        int ofAtLeast(Book b, int pairs) {
            Arrays.fill(by, 0);
            by[0] = 1000000;
            for (int leaf = 0; leaf < b.leaves; leaf++) {
                if (b.placeOf[leaf] > 0) {
                    mix(b.placeOf[leaf] + 1);
                }
            }
            int sum = 0;
            for (int i = Math.max(0, pairs); i <= PAIRS; i++) {
                sum += by[i];
            }
            return sum;
        }

        private void mix(int j) {
            int window = 0;
            for (int i = 0; i <= PAIRS; i++) {
                window += by[i];
                if (i >= j) {
                    window -= by[i - j];
                }
                then[i] = cutDown(window, j);
            }
            System.arraycopy(then, 0, by, 0, PAIRS + 1);
        }
    }

    /** Kinds by their lights, parted into groups of neighbours. */
    private static final class Humps {
        int held;
        private final int[] kindAt = new int[KINDS];
        private final int[] lightAt = new int[KINDS];
        private int firstEnd;
        private int secondEnd;
        private int thirdEnd;

        void sort(Undone undone) {
            held = 0;
            for (int kind = 0; kind < KINDS; kind++) {
                if (undone.leavesOf[kind] > 0) {
                    insert(kind, undone.lightOf[kind]);
                }
            }
        }

        private void insert(int kind, int light) {
            int at = held;
            while (at > 0 && lightAt[at - 1] > light) {
                lightAt[at] = lightAt[at - 1];
                kindAt[at] = kindAt[at - 1];
                at--;
            }
            lightAt[at] = light;
            kindAt[at] = kind;
            held++;
        }

        /** Ends that are not asked for stand behind the last kind; fewer in a first group are tried first. */
        long part(int groups) {
            long best = NONE;
            for (int a = groups > 1 ? 1 : held; a <= lastEnd(groups > 1); a++) {
                for (int b = groups > 2 ? a + 1 : held; b <= lastEnd(groups > 2); b++) {
                    for (int c = groups > 3 ? b + 1 : held; c <= lastEnd(groups > 3); c++) {
                        long sum = spread(0, a) + spread(a, b) + spread(b, c) + spread(c, held);
                        if (best == NONE || sum < best) {
                            best = sum;
                            firstEnd = a;
                            secondEnd = b;
                            thirdEnd = c;
                        }
                    }
                }
            }
            return best;
        }

        private int lastEnd(boolean moves) {
            return moves ? held - 1 : held;
        }

        private long spread(int from, int to) {
            long n = to - from;
            if (n < 1) {
                return 0;
            }
            long sum = 0;
            long squares = 0;
            for (int i = from; i < to; i++) {
                sum += lightAt[i];
                squares += (long) lightAt[i] * lightAt[i];
            }
            return 1000 * (n * squares - sum * sum) / n;
        }

        int groupOf(int kind) {
            int at = 0;
            while (at < held - 1 && kindAt[at] != kind) {
                at++;
            }
            return (at >= firstEnd ? 1 : 0) + (at >= secondEnd ? 1 : 0) + (at >= thirdEnd ? 1 : 0);
        }
    }

    /** The years by one way or two that come nearest to the midsts. */
    private static final class Fit {
        private static final int MOST_YEARS = 60;

        boolean made;
        int yearsFirst;
        int yearsSecond;
        private final int[] first = new int[LEAVES];
        private final int[] second = new int[LEAVES];

        int search(Book b, int[] midst, Way one, Way other) {
            for (int leaf = 0; leaf < b.leaves; leaf++) {
                first[leaf] = 2 * one.yearly(b.kindOf[leaf], b.placeOf[leaf]);
                second[leaf] = other == null ? 0 : 2 * other.yearly(b.kindOf[leaf], b.placeOf[leaf]);
            }
            int mostSecond = other == null ? 0 : MOST_YEARS;
            int best = Integer.MAX_VALUE;
            for (int x = 0; x <= MOST_YEARS; x++) {
                for (int y = 0; y <= mostSecond; y++) {
                    int sum = differing(midst, b.leaves, x, y, best);
                    if (sum < best) {
                        best = sum;
                        yearsFirst = x;
                        yearsSecond = y;
                    }
                }
            }
            made = true;
            return best;
        }

        /** The sum only grows, so one that has come to the best is let go. */
        private int differing(int[] midst, int leaves, int x, int y, int best) {
            int sum = 0;
            for (int leaf = 0; leaf < leaves && sum < best; leaf++) {
                sum += Math.abs(x * first[leaf] + y * second[leaf] - midst[leaf]);
            }
            return sum;
        }
    }

    /** How well the leaves lie as they do, and the one move that mends most. */
    private static final class Order {
        int movedLeaf;
        int movedTo;
        int wantThen;
        private int leaves;
        private final int[] most = new int[LEAVES];
        private final int[] sends = new int[LEAVES];

        void fill(Book b, Law law) {
            leaves = b.leaves;
            for (int leaf = 0; leaf < leaves; leaf++) {
                most[leaf] = b.bareHigh(b.now, leaf) - b.spiltOn[leaf];
                sends[leaf] = law.through(b.bareLow(b.now, leaf));
            }
        }

        int want() {
            int sum = 0;
            for (int leaf = 0; leaf < leaves; leaf++) {
                sum += lack(leaf - 1, leaf);
            }
            return sum;
        }

        void findMove() {
            int asItIs = want();
            int best = asItIs;
            movedLeaf = NONE;
            movedTo = NONE;
            for (int leaf = 0; leaf < leaves; leaf++) {
                int without = asItIs - lack(leaf - 1, leaf) - lack(leaf, leaf + 1) + lack(leaf - 1, leaf + 1);
                for (int place = 0; place < leaves; place++) {
                    int then = without + putAt(leaf, place);
                    if (place != leaf && then < best) {
                        best = then;
                        movedLeaf = leaf;
                        movedTo = place;
                    }
                }
            }
            wantThen = movedLeaf == NONE ? NONE : best;
        }

        private int putAt(int leaf, int place) {
            int ahead = otherAt(leaf, place - 1);
            int behind = otherAt(leaf, place);
            return lack(ahead, leaf) + lack(leaf, behind) - lack(ahead, behind);
        }

        /** The leaf at a place among the others; below the first NONE, above the last one there isn't. */
        private static int otherAt(int leaf, int place) {
            return place < leaf ? place : place + 1;
        }

        /** How far below nothing a leaf is that lies behind another one (below 0: none). */
        private int lack(int ahead, int leaf) {
            if (leaf < 0 || leaf >= leaves) {
                return 0;
            }
            int comes = ahead < 0 || ahead >= leaves ? 0 : sends[ahead];
            return Math.max(0, comes - most[leaf]);
        }
    }

    /** Trials on blank leaves, and the turns that they leave possible. */
    private static final class Trials {
        int held;
        private final int[] turned = new int[TRIALS];
        private final int[] gained = new int[TRIALS];

        boolean add(int times, int shade) {
            if (held >= TRIALS || times < 1 || times > 999 || shade < 0 || shade > 9999) {
                return false;
            }
            turned[held] = times;
            gained[held] = shade;
            held++;
            return true;
        }

        boolean agree(int slip) {
            for (int i = 0; i < held; i++) {
                for (int j = 0; j < held; j++) {
                    if ((gained[i] - slip) * turned[j] > (gained[j] + slip) * turned[i]) {
                        return false;
                    }
                }
            }
            return held > 0;
        }

        int least(int slip) {
            int best = 0;
            for (int i = 0; i < held; i++) {
                best = Math.max(best, cutDown(1000L * (gained[i] - slip), turned[i]));
            }
            return best;
        }

        int greatest(int slip) {
            int best = Integer.MAX_VALUE;
            for (int i = 0; i < held; i++) {
                best = Math.min(best, cutUp(1000L * (gained[i] + slip), turned[i]));
            }
            return best;
        }
    }
}
