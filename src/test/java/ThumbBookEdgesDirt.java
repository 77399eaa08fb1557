/** Readers, dirt, the glass and what is undone: parts 2 and 3 of the terms, and promises 11 to 17. */
public final class ThumbBookEdgesDirt extends Desk {
    /** One LEAF of KIND 0, BORN of 0, and WAY 0 that turns it so often in a year; TURN 1, nothing through, no SLIP. */
    static void oneLeaf(int often, String more) {
        law("turn 1;goes 0;slip 0;");
        way(0, "kind 0 " + often + ";");
        due("told", book(0, "text 0 1 born 0" + more), 0);
    }

    // ---- Terms 2: readers

    @Says({"READERS of a BOOK (at most 8)", "A READER: how many the BOOK has."})
    static void eightReaders() {
        oneLeaf(1, ";");
        for (int i = 1; i <= 8; i++) {
            due("reader " + i, x.reader(0, 0, 0, 0), i);
        }
        due("a ninth", x.reader(0, 0, 0, 0), NONE);
        due("it has", x.about(0, 2), 8);
        due("a ninth turns nothing", x.dirt(0, 0, 3), 8);
        due("status", x.count(7), 1);
        due("another book has its own", x.reader(1, 0, 0, 0), 1);
        due("one is gone", x.gone(0), 7);
        due("an eighth again", x.reader(0, 0, 0, 0), 8);
    }

    static void turnedBy(int from, int to, int want) {
        due("reader " + from + " to " + to, x.reader(0, 0, from, to), 1);
        due("turnings " + from + " to " + to, x.dirt(0, 0, 3), want);
        due("gone", x.gone(0), 0);
    }

    @Says("from a YEAR to a YEAR (0 to 500), both counted")
    static void bothYearsCounted() {
        oneLeaf(1, ";");
        turnedBy(7, 7, 1);
        turnedBy(7, 8, 2);
        turnedBy(0, 0, 1);
        turnedBy(500, 500, 1);
        turnedBy(0, 500, 501);
        turnedBy(1, 499, 499);
    }

    @Says("NONE (STATUS 2): it has 8, YEARS are not as told, the first behind the last. NoSuchElementException: also no such WAY.")
    static void refusedReaders() {
        oneLeaf(1, ";");
        int[][] years = {{-1, 0}, {0, 501}, {501, 501}, {-1, -1}, {1, 0}, {500, 499}, {500, 0}, {-1, 501}, {LEAST_INT, GREATEST_INT},
            {0, GREATEST_INT}, {LEAST_INT, 500}, {GREATEST_INT, GREATEST_INT}, {LEAST_INT, LEAST_INT}, {0, -1}, {501, 0}};
        for (int i = 0; i < years.length; i++) {
            due("reader " + years[i][0] + " to " + years[i][1], x.reader(0, 0, years[i][0], years[i][1]), NONE);
            due("status 2", x.count(7), i + 1);
        }
        due("no reader came", x.about(0, 2), 0);
        noSuch("way 6 comes first", () -> x.reader(0, 6, 1, 0));
        noSuch("way -1", () -> x.reader(0, -1, 0, 0));
        noSuch("book 6", () -> x.reader(6, 0, 1, 0));
        for (int i = 0; i < 8; i++) {
            x.reader(0, 5, 0, 500);
        }
        due("a ninth", x.reader(0, 0, 0, 500), NONE);
        noSuch("way 6 of a book that has 8", () -> x.reader(0, 6, 0, 0));
        due("what throws isn't counted", x.count(7), years.length + 1);
        due("no other status", x.count(5) + x.count(6) + x.count(8), 0);
        due("of a book of no leaves", x.reader(5, 0, 0, 500), 1);
    }

    @Says("The latest READER is gone: how many are left. NONE: there is none.")
    static void latestIsGone() {
        oneLeaf(1, ";");
        way(1, "kind 0 10;");
        x.reader(0, 0, 0, 0);
        x.reader(0, 1, 0, 0);
        x.reader(0, 0, 1, 1);
        due("two are left", x.gone(0), 2);
        due("turnings", x.dirt(0, 0, 3), 11);
        due("one is left", x.gone(0), 1);
        due("turnings", x.dirt(0, 0, 3), 1);
        due("none is left", x.gone(0), 0);
        due("no turnings", x.dirt(0, 0, 3), 0);
        due("there is none", x.gone(0), NONE);
        due("still", x.gone(0), NONE);
        due("it has none", x.about(0, 2), 0);
        due("that is no refused reader", x.count(7), 0);
        due("the next one is the first", x.reader(0, 1, 0, 0), 1);
        due("turnings", x.dirt(0, 0, 3), 10);
        due("of no leaves", x.gone(5), NONE);
        noSuch("book 6", () -> x.gone(6));
    }

    // ---- Terms 2: turnings and own dirt

    @Says("TURNINGS of a LEAF in a YEAR: of all READERS then, if it is bound in (its YEAR not later than that)")
    static void boundInOrNot() {
        oneLeaf(1, " later 10;");
        turnedBy(9, 9, 0);
        turnedBy(10, 10, 1);
        turnedBy(0, 10, 1);
        turnedBy(11, 11, 1);
        turnedBy(0, 500, 491);
        oneLeaf(1, " later 500;");
        turnedBy(0, 499, 0);
        turnedBy(500, 500, 1);
        turnedBy(0, 500, 1);
        oneLeaf(1, " later 0;");
        turnedBy(0, 0, 1);
        x.reader(0, 0, 3, 5);
        x.reader(0, 0, 5, 6);
        due("of all readers then", x.dirt(0, 0, 3), 5);
    }

    @Says("by WAYS as they are")
    static void waysAsTheyAre() {
        oneLeaf(4, ";");
        x.reader(0, 0, 0, 9);
        due("told so", x.dirt(0, 0, 0), 40);
        way(0, "kind 0 5;");
        due("told anew", x.dirt(0, 0, 0), 50);
        due("a fault", way(0, "kind 0 0;"), 2);
        due("it stays", x.dirt(0, 0, 0), 50);
        way(0, "kind 1 5;");
        due("another kind", x.dirt(0, 0, 0), 0);
        way(0, "");
        due("of none", x.dirt(0, 0, 3), 0);
    }

    static void ownBy(int from, int to, int want) {
        x.reader(0, 0, from, to);
        due("own of " + from + " to " + to, x.dirt(0, 0, 0), want);
        x.gone(0);
    }

    @Says("OWN dirt of a LEAF: TURN by TURNINGS, YEAR by YEAR")
    static void turnByTurnings() {
        oneLeaf(99, ";");
        ownBy(7, 7, 99);
        ownBy(7, 8, 198);
        law("turn 50;goes 0;");
        ownBy(7, 7, 4950);
        for (int i = 0; i < 8; i++) {
            x.reader(0, 0, 0, 500);
        }
        due("the most turnings", x.dirt(0, 0, 3), 8 * 501 * 99);
        due("the most dirt", x.dirt(0, 0, 0), 50 * 8 * 501 * 99);
        law("turn 50;goes 90;");
        book(1, "text 0 20 born 200;text 0 20 born 200;hair 100;spilt 39 999;");
        for (int i = 0; i < 8; i++) {
            x.reader(1, 0, 0, 500);
        }
        long all = 0;
        for (int leaf = 0; leaf < 40; leaf++) {
            all = 19839600 + all * 90 / 100;
            due("the most on leaf " + leaf, x.dirt(1, leaf, 1), leaf < 39 ? all : all + 999);
        }
        due("the darkest of all", x.dirt(1, 39, 2), all + 999 + 300);
    }

    @Says("in a YEAR that it is washed, behind that, what is there by 100 less OFF, by 100, cut down")
    static void washedBehindTheTurnings() {
        oneLeaf(4, ";washed 5 50;");
        ownBy(5, 5, 2);
        ownBy(4, 4, 2);
        ownBy(6, 6, 4);
        ownBy(4, 6, 8);
        oneLeaf(3, ";washed 5 50;");
        ownBy(5, 5, 1);
        oneLeaf(1, ";washed 5 1;");
        ownBy(5, 5, 0);
        oneLeaf(99, ";washed 5 99;");
        ownBy(5, 5, 0);
        oneLeaf(50, ";washed 5 99;");
        ownBy(4, 5, 1);
        oneLeaf(5, ";washed 5 10;washed 6 10;");
        ownBy(5, 5, 3);
        ownBy(6, 6, 4);
        ownBy(5, 6, 8);
        oneLeaf(2, ";washed 0 50;washed 1 50;washed 499 50;washed 500 50;");
        ownBy(0, 0, 0);
        ownBy(1, 1, 0);
        ownBy(2, 2, 0);
        ownBy(500, 500, 1);
        ownBy(499, 500, 1);
        // 2: 1. 3: 1. Then 996 and 1: 997, 498. 500: 250.
        ownBy(0, 500, 250);
    }

    @Says("(also of a LEAF bound in later, which has none)")
    static void washedAheadOfBinding() {
        oneLeaf(2, " later 6;washed 5 50;");
        ownBy(0, 500, 990);
        oneLeaf(2, " later 5;washed 5 50;");
        ownBy(0, 500, 991);
        oneLeaf(2, " later 4;washed 5 50;");
        ownBy(0, 500, 992);
    }

    @Says("These are as at the end of YEAR 500.")
    static void atTheEndOfYear500() {
        oneLeaf(4, ";washed 500 50;");
        ownBy(500, 500, 2);
        ownBy(499, 500, 4);
        oneLeaf(4, ";");
        ownBy(500, 500, 4);
    }

    @Says("ALL that is on a LEAF: OWN, what is spilt, and ALL of the LEAF ahead by GOES, by 100, cut down.")
    static void allOnALeaf() {
        law("turn 1;goes 90;slip 0;");
        book(0, "text 0 2 born 0;text 1 3 born 0;spilt 0 999;spilt 2 1;");
        int[] all = {999, 899, 810, 729, 656};
        for (int leaf = 0; leaf < 5; leaf++) {
            due("leaf " + leaf, x.dirt(0, leaf, 1), all[leaf]);
            due("own of leaf " + leaf, x.dirt(0, leaf, 0), 0);
        }
        book(1, "text 0 2 born 0;spilt 0 1;");
        due("0.9 cut down", x.dirt(1, 1, 1), 0);
        law("turn 1;goes 0;slip 0;");
        due("nothing goes through", x.dirt(0, 1, 1), 0);
        oneLeaf(1, ";spilt 0 10;washed 5 50;");
        due("what is spilt isn't washed", x.dirt(0, 0, 1), 10);
    }

    @Says("SHADE: BORN, 'hair' of odd ones, ALL.")
    static void shades() {
        book(0, "text 0 20 born 200;text 0 20 born 0;hair 100;spilt 38 10;");
        due("even", x.dirt(0, 0, 2), 200);
        due("odd", x.dirt(0, 1, 2), 300);
        due("even of the second", x.dirt(0, 38, 2), 10);
        due("the last", x.dirt(0, 39, 2), 102);
        due("all of the last", x.dirt(0, 39, 1), 2);
    }

    @Says("OWN dirt of a LEAF (what 0), ALL (1), SHADE (2), TURNINGS of all YEARS together (3). NoSuchElementException: also another what.")
    static void dirts() {
        oneLeaf(3, ";spilt 0 7;hair 5;washed 3 50;");
        law("turn 2;");
        x.reader(0, 0, 3, 3);
        int[] want = {3, 10, 10, 3};
        for (int what = 0; what <= 3; what++) {
            due("what " + what, x.dirt(0, 0, what), want[what]);
        }
        for (int what : new int[] {-1, 4, LEAST_INT, GREATEST_INT}) {
            noSuch("what " + what, () -> x.dirt(0, 0, what));
        }
        noSuch("leaf 1", () -> x.dirt(0, 1, 0));
        noSuch("a book of no leaves", () -> x.dirt(1, 0, 0));
    }

    // ---- Terms 2: drawn

    /** The bits 16 to 30 of the seeds that follow 1, as every C book has them. */
    static final int[] BITS = {16838, 5758, 10113, 17515, 31051, 5627, 23010, 7419, 16212, 4086};

    static void readingsAre(int slip, int... want) {
        for (int leaf = 0; leaf < want.length; leaf++) {
            due("lesser of leaf " + leaf, x.bounds(0, leaf, 0), Math.max(0, want[leaf] - slip));
            due("greater of leaf " + leaf, x.bounds(0, leaf, 1), want[leaf] + slip);
        }
    }

    @Says("by a seed a READING of each LEAF, 0 on: SHADE and a DRAW")
    static void readingOfEachLeaf() {
        law("slip 50;");
        book(0, "text 0 10 born 200;");
        due("drawn", x.drawn(0, 1), 0);
        int[] want = new int[10];
        for (int i = 0; i < 10; i++) {
            want[i] = 200 + BITS[i] % 101 - 50;
        }
        due("the first by hand", want[0], 222);
        due("the second by hand", want[1], 151);
        readingsAre(50, want);
    }

    @Says("the seed becomes itself times 1103515245 and 12345 (an int that wraps)")
    static void seedWraps() {
        law("slip 50;");
        for (int seed : new int[] {0, -1, 1, LEAST_INT, GREATEST_INT, 0x7FFF0000, -12345, 1 << 30}) {
            book(0, "text 0 8 born 200;");
            due("drawn by " + seed, x.drawn(0, seed), 0);
            long at = seed & 0xFFFFFFFFL;
            int[] want = new int[8];
            for (int i = 0; i < 8; i++) {
                at = (at * 1103515245L + 12345L) & 0xFFFFFFFFL;
                want[i] = 150 + (int) (at / 65536 % 32768 % 101);
            }
            readingsAre(50, want);
        }
    }

    @Says("the DRAW is its bits 16 to 30 MOD (SLIP and SLIP and 1), less SLIP; 0 at least.")
    static void drawsBySlip() {
        law("slip 0;");
        book(0, "text 0 3 born 0;");
        x.drawn(0, 1);
        readingsAre(0, 0, 0, 0);
        law("slip 1;");
        book(0, "text 0 4 born 9;");
        x.drawn(0, 1);
        // 16838, 5758, 10113 and 17515 MOD 3: 2, 1, 0, 1.
        readingsAre(1, 10, 9, 8, 9);
        law("slip 50;");
        book(0, "text 0 3 born 0;");
        x.drawn(0, 1);
        // 22, -49 and -37 of nothing.
        readingsAre(50, 22, 0, 0);
    }

    @Says("READINGS are DRAWN: how many were refused (STATUS 1 counts them).")
    static void refusedDrawings() {
        law("turn 3;goes 0;slip 0;");
        way(0, "kind 0 99;");
        darkest(0, "text 0 1 born 0;text 0 1 born 1;");
        due("the darkest", x.dirt(0, 0, 2), 999999);
        due("too dark", x.dirt(0, 1, 2), 1000000);
        due("one is refused", x.drawn(0, 5), 1);
        due("status 1", x.count(6), 1);
        due("the darkest is read", x.bounds(0, 0, 1), 999999);
        noSuch("too dark a one isn't", () -> x.bounds(0, 1, 0));
        due("again", x.drawn(0, 6), 1);
        due("status 1", x.count(6), 2);
        due("of no leaves", x.drawn(5, 1), 0);
        law("slip 0;");
        book(1, "text 0 20;text 0 20;");
        for (int leaf = 0; leaf < 40; leaf++) {
            x.read(1, leaf, 41);
        }
        due("all are refused", x.drawn(1, 1), 40);
        due("status 1", x.count(6), 42);
        due("bounds stay", x.bounds(1, 39, 1), 41);
        noSuch("book 6", () -> x.drawn(6, 1));
        due("no other status", x.count(5) + x.count(7) + x.count(8), 0);
    }

    @Says("READINGS are DRAWN")
    static void refusedDrawingLetsTheSeedGoOn() {
        law("slip 0;");
        book(0, "text 0 3 born 100;");
        x.read(0, 0, 0);
        law("slip 50;");
        due("the first is refused", x.drawn(0, 1), 1);
        due("it stays", x.bounds(0, 0, 1), 0);
        due("the second by its own draw", x.bounds(0, 1, 1), 101);
        due("the third by its own draw", x.bounds(0, 2, 1), 113);
    }

    // ---- Terms 3: readings and bounds

    @Says("READINGS of a LEAF (0 to 999,999)")
    static void readingsFromTo() {
        book(0, "text 0 4;");
        due("-1", x.read(0, 0, -1), false);
        due("0", x.read(0, 0, 0), true);
        due("999,999", x.read(0, 1, 999999), true);
        due("1,000,000", x.read(0, 2, 1000000), false);
        due("least", x.read(0, 2, LEAST_INT), false);
        due("greatest", x.read(0, 2, GREATEST_INT), false);
        noSuch("refused ones leave it unread", () -> x.bounds(0, 2, 0));
        due("1,000,000 of one read", x.read(0, 1, 1000000), false);
        due("-1 of one read", x.read(0, 0, -1), false);
        due("status 1", x.count(6), 6);
    }

    @Says("by each its SHADE lies from it less SLIP (0 at least) to it and SLIP")
    static void fromLessSlipToAndSlip() {
        law("slip 50;");
        book(0, "text 0 5;");
        int[] shades = {0, 49, 50, 51, 999999};
        int[] lesser = {0, 0, 0, 1, 999949};
        int[] greater = {50, 99, 100, 101, 1000049};
        for (int leaf = 0; leaf < 5; leaf++) {
            due("read " + shades[leaf], x.read(0, leaf, shades[leaf]), true);
            due("lesser of " + shades[leaf], x.bounds(0, leaf, 0), lesser[leaf]);
            due("greater of " + shades[leaf], x.bounds(0, leaf, 1), greater[leaf]);
        }
        law("slip 0;");
        book(1, "text 0 1;");
        x.read(1, 0, 7);
        due("no slip: lesser", x.bounds(1, 0, 0), 7);
        due("no slip: greater", x.bounds(1, 0, 1), 7);
    }

    static void boundsAre(String when, int lesser, int greater) {
        due("lesser " + when, x.bounds(0, 0, 0), lesser);
        due("greater " + when, x.bounds(0, 0, 1), greater);
    }

    @Says({"BOUNDS of all READINGS together; a READING by which none were left is refused", "A READING: true. False (STATUS 1): it is refused, not as told."})
    static void noneLeftIsRefused() {
        book(0, "text 0 1;");
        due("first", x.read(0, 0, 100), true);
        boundsAre("of one", 97, 103);
        due("darker", x.read(0, 0, 104), true);
        boundsAre("of two", 101, 103);
        due("lighter", x.read(0, 0, 99), true);
        boundsAre("of three", 101, 102);
        due("none left below", x.read(0, 0, 97), false);
        boundsAre("of a refused one", 101, 102);
        due("one left below", x.read(0, 0, 98), true);
        boundsAre("of one left", 101, 101);
        due("none left above", x.read(0, 0, 105), false);
        due("one left above", x.read(0, 0, 104), true);
        boundsAre("of one left", 101, 101);
        due("status 1", x.count(6), 2);
        due("far off", x.read(0, 0, 999999), false);
        due("status 1", x.count(6), 3);
        noSuch("leaf 1", () -> x.read(0, 1, 5) ? 1 : 0);
        noSuch("leaf -1", () -> x.read(0, -1, -1) ? 1 : 0);
        noSuch("a book of no leaves", () -> x.read(1, 0, -1) ? 1 : 0);
        due("what throws isn't counted", x.count(6), 3);
    }

    @Says("A new BOOK has none; a new LAW leaves BOUNDS as they are.")
    static void newBookNewLaw() {
        book(0, "text 0 1;");
        x.read(0, 0, 100);
        law("slip 50;");
        boundsAre("by a new law", 97, 103);
        due("a wider one changes nothing", x.read(0, 0, 140), true);
        boundsAre("of a wider one", 97, 103);
        due("but by its own slip", x.read(0, 0, 151), true);
        boundsAre("by its own slip", 101, 103);
        law("slip 0;");
        boundsAre("by a law of no slip", 101, 103);
        due("told anew", book(0, "text 0 1;"), 0);
        noSuch("none", () -> x.bounds(0, 0, 0));
        due("any is taken", x.read(0, 0, 7), true);
    }

    // ---- Terms 3: undone

    static void undoneIs(int leaf, int... want) {
        for (int i = 0; i < want.length; i++) {
            due("leaf " + leaf + ", what " + (i + 2), x.bounds(0, leaf, i + 2), want[i]);
        }
    }

    @Says("BARE bounds: BOUNDS less BORN and 'hair', 0 at least each.")
    static void bareBounds() {
        law("turn 1;goes 0;slip 3;");
        book(0, "text 0 6 born 40;hair 10;");
        readAll(0, 0, 36, 46, 37, 47, 44, 54);
        undoneIs(0, 0, 0);
        undoneIs(1, 0, 0);
        undoneIs(2, 0, 0);
        undoneIs(3, 0, 0);
        undoneIs(4, 1, 7);
        undoneIs(5, 1, 7);
        book(0, "text 0 2 born 40;hair 10;");
        readAll(0, 0, 38, 48);
        undoneIs(0, 0, 1);
        undoneIs(1, 0, 1);
    }

    @Says("UNDONE: OWN dirt from the lesser BARE bound less what goes through by the greater one of the LEAF ahead, to the greater one less what goes through by the lesser one ahead, both less what is spilt (of LEAF 0 nothing goes through); only if the LEAF and that ahead were read.")
    static void undoneOfALeaf() {
        law("turn 2;goes 20;slip 3;");
        book(0, "text 0 3 born 40;spilt 0 5;spilt 1 5;");
        x.read(0, 1, 70);
        due("bounds of the leaf alone", x.bounds(0, 1, 0), 67);
        for (int what = 2; what <= 7; what++) {
            int asked = what;
            noSuch("what " + what + ": that ahead wasn't read", () -> x.bounds(0, 1, asked));
        }
        x.read(0, 0, 140);
        // Bare 97 to 103, less 5. Through: 19.4 to 20.6, cut down; bare 27 to 33, less 20 or 19, less 5.
        undoneIs(0, 92, 98);
        undoneIs(1, 2, 9);
        noSuch("the leaf wasn't read", () -> x.bounds(0, 2, 2));
        x.read(0, 2, 41);
        // Bare 0 to 4, through 5.4 to 6.6.
        undoneIs(2, -6, -1);
        law("turn 2;goes 90;");
        // By the law as it is: through 87 to 92.
        undoneIs(1, 27 - 92 - 5, 33 - 87 - 5);
        law("turn 2;goes 0;");
        undoneIs(1, 22, 28);
        due("leaf 0 needs none ahead", book(0, "text 0 2;"), 0);
        x.read(0, 0, 50);
        undoneIs(0, 7, 13);
    }

    @Says("TURNS: from the lesser (0 at least) by TURN, cut up, to the greater by TURN, cut down (towards less); the LEAF is STRANGE, if the first of these is above the second.")
    static void turnsCutUpAndDown() {
        law("turn 4;goes 50;slip 0;");
        book(0, "text 0 4 born 0;");
        readAll(0, 0, 8, 8, 9, 4);
        undoneIs(0, 8, 8, 2, 2, 4, 0);
        undoneIs(1, 4, 4, 1, 1, 2, 0);
        undoneIs(2, 5, 5, 2, 1, 0, 1);
        undoneIs(3, 0, 0, 0, 0, 0, 0);
        book(0, "text 0 3 born 0;");
        readAll(0, 0, 8, 3, 0);
        undoneIs(1, -1, -1, 0, -1, 0, 1);
        undoneIs(2, -1, -1, 0, -1, 0, 1);
        book(0, "text 0 2 born 0;");
        readAll(0, 0, 8, 0);
        undoneIs(1, -4, -4, 0, -1, 0, 1);
        book(0, "text 0 2 born 0;");
        readAll(0, 0, 10, 0);
        undoneIs(1, -5, -5, 0, -2, 0, 1);
        law("turn 1;goes 50;slip 0;");
        undoneIs(1, -5, -5, 0, -5, 0, 1);
        law("turn 1;goes 10;slip 0;");
        undoneIs(1, -1, -1, 0, -1, 0, 1);
        law("turn 50;goes 0;slip 1;");
        book(0, "text 0 3 born 0;");
        readAll(0, 0, 99, 1, 51);
        undoneIs(0, 98, 100, 2, 2, 4, 0);
        undoneIs(1, 0, 2, 0, 0, 0, 0);
        undoneIs(2, 50, 52, 1, 1, 2, 0);
    }

    @Says("MIDST: both TURNS together (of a STRANGE LEAF 0).")
    static void midsts() {
        law("turn 2;goes 0;slip 1;");
        book(0, "text 0 2 born 0;");
        readAll(0, 0, 3, 1);
        undoneIs(0, 2, 4, 1, 2, 3, 0);
        undoneIs(1, 0, 2, 0, 1, 1, 0);
        law("turn 10;goes 0;slip 0;");
        undoneIs(0, 2, 4, 1, 0, 0, 1);
    }

    @Says("BOUNDS (what 0, 1), UNDONE (2, 3), TURNS (4, 5), each the lesser, the greater; MIDST (6); whether it is STRANGE (7: 1). NoSuchElementException: also another what, or (0, 1) the LEAF, (2 on) it or that ahead wasn't read.")
    static void boundsThrow() {
        book(0, "text 0 3;");
        x.read(0, 0, 60);
        x.read(0, 2, 60);
        for (int what = 0; what <= 7; what++) {
            int asked = what;
            due("leaf 0, what " + what, thrown(() -> x.bounds(0, 0, asked)).equals("nothing"), true);
            noSuch("a leaf that wasn't read, what " + what, () -> x.bounds(0, 1, asked));
            due("leaf 2, what " + what, thrown(() -> x.bounds(0, 2, asked)).equals("nothing"), what < 2);
        }
        for (int what : new int[] {-1, 8, LEAST_INT, GREATEST_INT}) {
            noSuch("what " + what, () -> x.bounds(0, 0, what));
        }
    }

    @Says("KNOWN is a BOOK of which each LEAF was read (one LEAF at least).")
    static void knownBooks() {
        due("of no leaves", x.about(0, 4), 0);
        noSuch("nothing of no leaves", () -> x.falls(0, NONE));
        book(0, "text 0 20;text 0 20;");
        for (int leaf = 39; leaf >= 0; leaf--) {
            due("not yet, leaf " + leaf, x.about(0, 4), 0);
            x.read(0, leaf, 60);
        }
        due("each was read", x.about(0, 4), 1);
        book(1, "text 0 1;");
        x.read(1, 0, -1);
        due("a refused reading is none", x.about(1, 4), 0);
        x.read(1, 0, 0);
        due("one leaf", x.about(1, 4), 1);
        book(2, "text 0 20;text 0 20;");
        for (int leaf = 0; leaf < 39; leaf++) {
            x.read(2, leaf, 60);
        }
        due("all but the last", x.about(2, 4), 0);
        noSuch("light of all but the last", () -> x.light(2, 0));
    }

    @Says("LIGHT of a KIND: MIDSTS of its LEAVES together, by 2, by how many, cut down once.")
    static void lightCutDownOnce() {
        law("turn 2;goes 0;slip 1;");
        book(0, "text 0 2 born 0;");
        readAll(0, 0, 3, 1);
        due("3 and 1, by 2, by 2", x.light(0, 0), 1);
        book(0, "text 0 1 born 0;");
        readAll(0, 0, 3);
        due("3, by 2", x.light(0, 0), 1);
        exact(1, "text 4 1;text 5 1;text 4 2;", 5, 100, 6, 6);
        due("17 by 3, over texts", x.light(1, 4), 5);
        exact(1, "text 4 1;text 5 1;text 4 2;", 6, 100, 6, 6);
        due("18 by 3", x.light(1, 4), 6);
        law("turn 10;goes 0;slip 0;");
        book(2, "text 0 2 born 0;");
        readAll(2, 0, 100, 15);
        due("a STRANGE one counts as 0 of two", x.light(2, 0), 5);
    }

    @Says("LIGHT of a KIND (0 to 11). NoSuchElementException: also no such KIND in it, or it isn't KNOWN (as everywhere below, where a BOOK is asked).")
    static void lights() {
        exact(0, "text 0 1;text 11 1;", 3, 4);
        due("kind 0", x.light(0, 0), 3);
        due("kind 11", x.light(0, 11), 4);
        for (int kind : new int[] {-1, 1, 10, 12, LEAST_INT, GREATEST_INT}) {
            noSuch("kind " + kind, () -> x.light(0, kind));
        }
        book(1, "text 0 2;");
        x.read(1, 0, 50);
        way(0, "kind 0 1;");
        for (int b : new int[] {1, 2}) {
            notKnown(b);
        }
        x.read(1, 1, 50);
        due("known now", x.light(1, 0), 10);
    }

    static void notKnown(int b) {
        noSuch("light of " + b, () -> x.light(b, 0));
        for (int what = 0; what <= 2; what++) {
            int asked = what;
            noSuch("sleepy of " + b, () -> x.sleepy(b, asked));
        }
        noSuch("humps of " + b, () -> x.humps(b, 1));
        noSuch("hump of " + b, () -> x.hump(b, 1, 0));
        noSuch("fitted of " + b, () -> x.fitted(b, 0, NONE));
        noSuch("whose of " + b, () -> x.whose(b));
        for (int what = 0; what <= 3; what++) {
            int asked = what;
            noSuch("order of " + b, () -> x.order(b, asked));
        }
        noSuch("falls of " + b, () -> x.falls(b, NONE));
        noSuch("alike of " + b, () -> x.alike(b, 0));
        noSuch("alike to " + b, () -> x.alike(0, b));
        noSuch("nearest of " + b, () -> x.nearest(b));
        noSuch("sure of " + b, () -> x.sure(b, 0, 0));
        noSuch("no YEARS were kept", () -> x.years(0));
    }

    public static void main(String[] args) {
        runAll(ThumbBookEdgesDirt.class);
    }
}
