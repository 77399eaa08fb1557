/** Blanks, towns, what may be said, and the image: part 5 of the terms, and promises 26 to 37. */
public final class ThumbBookEdgesTown extends Desk {
    // ---- trials on blanks

    @Says({"BLANKS: trials (at most 20): so many turnings (1 to 999), a SHADE gained (0 to 9999).",
        "A trial on BLANKS: how many there are. NONE (STATUS 3): there are 20, not as told."})
    static void trials() {
        int[][] bad = {{0, 5}, {1000, 5}, {-1, 5}, {5, -1}, {5, 10000}, {LEAST_INT, 5}, {GREATEST_INT, 5}, {5, LEAST_INT}, {5, GREATEST_INT}, {0, -1}};
        for (int i = 0; i < bad.length; i++) {
            due("trial of " + bad[i][0] + ", " + bad[i][1], x.blank(bad[i][0], bad[i][1]), NONE);
            due("status 3", x.count(8), i + 1);
        }
        due("none came", x.count(4), 0);
        int[][] good = {{1, 0}, {999, 9999}, {1, 9999}, {999, 0}};
        for (int i = 0; i < good.length; i++) {
            due("trial of " + good[i][0] + ", " + good[i][1], x.blank(good[i][0], good[i][1]), i + 1);
        }
        for (int i = 5; i <= 20; i++) {
            due("trial " + i, x.blank(5, 5), i);
        }
        due("a 21st", x.blank(5, 5), NONE);
        due("a bad 21st", x.blank(0, 5), NONE);
        due("there are", x.count(4), 20);
        due("status 3", x.count(8), bad.length + 2);
        due("no other status", x.count(5) + x.count(6) + x.count(7), 0);
    }

    @Says("All trials are gone: how many there were.")
    static void cleared() {
        due("none", x.clear(), 0);
        for (int i = 0; i < 20; i++) {
            x.blank(1, 100 * i);
        }
        due("20", x.clear(), 20);
        due("there are none", x.count(4), 0);
        due("again", x.clear(), 0);
        due("no TURN", x.turn(0), NONE);
        due("the first again", x.blank(1, 7), 1);
        due("the old ones count for nothing", x.turn(0), 4000);
        due("status 3 stays", x.count(8), 0);
    }

    static void turnIs(int slip, int least, int greatest, int... trials) {
        law("slip " + slip + ";");
        x.clear();
        for (int i = 0; i < trials.length; i += 2) {
            x.blank(trials[i], trials[i + 1]);
        }
        due("least by slip " + slip, x.turn(0), least);
        due("greatest by slip " + slip, x.turn(1), greatest);
    }

    @Says("A TURN (any fraction) is possible, if each trial's is no more than SLIP from it by its turnings.")
    static void possibleTurns() {
        turnIs(1, 4000, 4000, 1, 3, 1, 5);
        turnIs(1, NONE, NONE, 1, 3, 1, 6);
        turnIs(0, 333, 334, 3, 1, 6, 2);
        turnIs(0, NONE, NONE, 2, 1, 999, 500);
        turnIs(1, 499, 502, 2, 1, 999, 500);
        turnIs(0, NONE, NONE, 998, 9999, 999, 9999);
        // 9994 by 998 is just above 10004 by 999.
        turnIs(5, NONE, NONE, 998, 9999, 999, 9999);
        turnIs(6, 10013, 10016, 998, 9999, 999, 9999);
        // 10 to 14 and 13 to 17 and 14 to 18 by slip 2.
        turnIs(2, 14000, 14000, 1, 12, 1, 15, 1, 16);
        turnIs(2, NONE, NONE, 1, 12, 1, 15, 1, 17);
        turnIs(2, NONE, NONE, 1, 17, 1, 15, 1, 12);
        turnIs(50, 0, 50000, 1, 0);
        turnIs(0, 0, 0, 1, 0);
        turnIs(0, NONE, NONE, 1, 0, 1, 1);
    }

    @Says({"The least (cut down), the greatest (cut up) in thousandths.",
        "A possible TURN: the least (what 0; 0 at least), the greatest (1). NONE: none is possible, or there are no trials. NoSuchElementException: another what."})
    static void leastAndGreatestTurn() {
        due("no trials", x.turn(0), NONE);
        due("no trials", x.turn(1), NONE);
        turnIs(3, 2428, 3286, 7, 20);
        turnIs(0, 2000, 2000, 7, 14);
        turnIs(0, 10009, 10010, 999, 9999);
        turnIs(50, 9949000, 10049000, 1, 9999);
        turnIs(50, 0, 7429, 7, 2);
        turnIs(2, 0, 4000, 1, 2);
        turnIs(1, 1, 4, 999, 2);
        x.clear();
        x.blank(1, 10);
        law("slip 4;");
        due("by the law as it is", x.turn(0), 6000);
        law("");
        due("and as it is then", x.turn(0), 7000);
        for (int what : new int[] {-1, 2, LEAST_INT, GREATEST_INT}) {
            noSuch("what " + what, () -> x.turn(what));
        }
        x.clear();
        noSuch("what 2 without trials", () -> x.turn(2));
        noSuch("what -1 without trials", () -> x.turn(-1));
    }

    // ---- a town

    @Says({"A TOWN: KINDS by LIGHTS of all KNOWN BOOKS together.", "A TOWN: LIGHTS of a KIND together (0 of none). NoSuchElementException: no such KIND."})
    static void towns() {
        for (int kind = 0; kind <= 11; kind++) {
            due("of no books, kind " + kind, x.town(kind), 0);
        }
        for (int b = 0; b <= 5; b++) {
            exact(b, "text 0 1;text 11 1;", 1 << b, 100);
            due("books up to " + b, x.town(0), (2 << b) - 1);
        }
        due("kind 11 of six", x.town(11), 600);
        due("none", x.town(5), 0);
        book(2, "text 0 2;");
        x.read(2, 0, 50);
        due("one that isn't known counts for nothing", x.town(0), 63 - 4);
        book(2, "");
        due("one of no leaves", x.town(0), 63 - 4);
        for (int kind : new int[] {-1, 12, LEAST_INT, GREATEST_INT}) {
            noSuch("kind " + kind, () -> x.town(kind));
        }
        exact(0, "text 0 1;", 999959);
        exact(1, "text 0 1;", 999959);
        due("great ones", x.town(0), 2 * 999959 + 8 + 16 + 32);
    }

    @Says({"ALIKE of two KNOWN BOOKS: of pairs of KINDS that both have those whose LIGHTS lie the same way, less those that lie the other way.", "ALIKE."})
    static void alikes() {
        exact(0, "text 0 1;text 1 1;text 2 1;", 1, 2, 3);
        exact(1, "text 2 1;text 1 1;text 0 1;", 6, 5, 4);
        exact(2, "text 0 1;text 1 1;text 2 1;", 3, 2, 1);
        exact(3, "text 0 1;text 5 1;", 3, 2);
        exact(4, "text 0 1;text 1 1;text 2 1;", 4, 4, 5);
        due("all the same way", x.alike(0, 1), 3);
        due("all the other way", x.alike(0, 2), -3);
        due("one kind that both have", x.alike(0, 3), 0);
        due("like LIGHTS lie no way", x.alike(0, 4), 2);
        due("like LIGHTS lie no way, the other round", x.alike(4, 0), 2);
        due("like LIGHTS lie no way in both", x.alike(4, 4), 2);
        due("itself", x.alike(0, 0), 3);
        due("the other way in itself", x.alike(2, 4), -2);
        exact(5, kindsOfOneLeaf(12), 1, 2, 3, 4, 5, 6, 7, 8, 9, 10, 11, 12);
        due("all pairs of twelve", x.alike(5, 5), 66);
        noSuch("no such other", () -> x.alike(0, 6));
        noSuch("no such other", () -> x.alike(0, NONE));
        noSuch("no such book", () -> x.alike(6, 0));
        book(5, "text 0 1;");
        noSuch("the other isn't known", () -> x.alike(0, 5));
        noSuch("it isn't known", () -> x.alike(5, 0));
    }

    @Says({"NEAREST to a BOOK: the other KNOWN one of most ALIKE, of like ones the least.", "NEAREST; NONE: no other one is KNOWN."})
    static void nearests() {
        exact(5, "text 0 1;text 1 1;", 1, 2);
        due("no other one", x.nearest(5), NONE);
        book(0, "text 0 1;text 1 1;");
        x.read(0, 0, 41);
        due("no other one is KNOWN", x.nearest(5), NONE);
        exact(4, "text 0 1;text 1 1;", 2, 1);
        due("the only one, though the other way", x.nearest(5), 4);
        exact(3, "text 7 1;", 2);
        due("0 above -1", x.nearest(5), 3);
        exact(2, "text 8 1;", 2);
        due("of like ones the least", x.nearest(5), 2);
        exact(1, "text 0 1;text 1 1;", 5, 9);
        due("1 above 0", x.nearest(5), 1);
        due("not itself", x.nearest(1), 5);
        exact(0, "text 0 1;text 1 1;", 5, 9);
        due("book 0", x.nearest(5), 0);
        noSuch("book 6", () -> x.nearest(6));
        noSuch("book -1", () -> x.nearest(NONE));
    }

    // ---- what may be said

    static void sureIs(int want, String text, int... turns) {
        exact(0, text, turns);
        due("the first of " + text, x.sure(0, 0, 1), want);
        due("the second of " + text, x.sure(0, 1, 0), -want);
    }

    @Says("SURE of two KINDS of a BOOK: the first was turned oftener, if the lesser TURNS of its LEAVES together, by how many, are more than the greater ones of the second, by how many, exactly")
    static void sureExactly() {
        sureIs(0, "text 0 1;text 1 1;", 5, 5);
        sureIs(1, "text 0 1;text 1 1;", 6, 5);
        sureIs(-1, "text 0 1;text 1 1;", 5, 6);
        sureIs(1, "text 0 2;text 1 3;", 3, 4, 3, 3, 4);
        sureIs(-1, "text 0 2;text 1 3;", 3, 4, 3, 4, 4);
        sureIs(0, "text 0 2;text 1 4;", 3, 4, 3, 4, 3, 4);
        sureIs(1, "text 0 1;text 1 1;", 999959, 999958);
        fresh();
        law("turn 1;goes 0;slip 2;");
        book(0, "text 0 1 born 0;text 1 1 born 0;");
        readAll(0, 0, 14, 10);
        due("12 not more than 12", x.sure(0, 0, 1), 0);
        book(0, "text 0 1 born 0;text 1 1 born 0;");
        readAll(0, 0, 15, 10);
        due("13 more than 12", x.sure(0, 0, 1), 1);
        due("the second", x.sure(0, 1, 0), -1);
    }

    @Says("(of STRANGE ones both are 0)")
    static void sureOfStrangeOnes() {
        law("turn 10;goes 50;slip 0;");
        book(0, "text 0 1 born 0;text 1 1 born 0;text 2 1 born 0;text 3 1 born 0;text 4 1 born 0;");
        readAll(0, 0, 15, 7, 83, 41, 0);
        // 15: 2 to 1. 7 less 7: 0 to 0. 83 less 3: 8 to 8. 41 less 41: 0 to 0. 0 less 20: 0 to -2.
        int[] strange = {1, 0, 0, 0, 1};
        for (int leaf = 0; leaf < 5; leaf++) {
            due("leaf " + leaf, x.bounds(0, leaf, 7), strange[leaf]);
        }
        due("a lesser of 2 counts as 0", x.sure(0, 0, 1), 0);
        due("a greater of 1 counts as 0", x.sure(0, 1, 0), 0);
        due("8 more than 0", x.sure(0, 2, 0), 1);
        due("a greater of -2 counts as 0", x.sure(0, 3, 4), 0);
        due("both strange", x.sure(0, 0, 4), 0);
    }

    @Says("SURE: 1 the first oftener, -1 the second, 0 neither. NoSuchElementException: also no such KINDS in it.")
    static void sureThrows() {
        exact(0, "text 0 1;text 11 1;", 5, 6);
        due("the last kind", x.sure(0, 11, 0), 1);
        due("itself", x.sure(0, 11, 11), 0);
        for (int kind : new int[] {-1, 1, 10, 12, LEAST_INT, GREATEST_INT}) {
            noSuch("the first " + kind, () -> x.sure(0, kind, 0));
            noSuch("the second " + kind, () -> x.sure(0, 0, kind));
            noSuch("both " + kind, () -> x.sure(0, kind, kind));
        }
    }

    static void beforeIs(int leaf, int off, int least, int greatest) {
        due("least of leaf " + leaf + " by " + off, x.before(0, leaf, off, 0), least);
        due("greatest of leaf " + leaf + " by " + off, x.before(0, leaf, off, 1), greatest);
    }

    @Says("BEFORE a washing by OFF (0 to 99): OWN dirt v is possible, if v by 100 less OFF, by 100, cut down, lies UNDONE (the lesser 0 at least): the least, the greatest.")
    static void befores() {
        law("slip 1;goes 50;");
        book(0, "text 0 4 born 0;");
        readAll(0, 0, 4, 2, 0, 0);
        // Leaf 0: 3 to 5. Leaf 1: 1 less 2, 3 less 1. Leaf 2: 0 less 1, 1 less 0. Leaf 3: 0 to 1.
        beforeIs(0, 0, 3, 5);
        beforeIs(0, 1, 4, 6);
        beforeIs(0, 50, 6, 11);
        beforeIs(0, 70, 10, 19);
        beforeIs(0, 98, 150, 299);
        beforeIs(0, 99, 300, 599);
        beforeIs(1, 0, 0, 2);
        beforeIs(1, 50, 0, 5);
        beforeIs(2, 99, 0, 199);
        fresh();
        law("slip 0;goes 50;");
        book(0, "text 0 3 born 0;");
        readAll(0, 0, 8, 4, 1);
        beforeIs(1, 99, 0, 99);
        beforeIs(1, 0, 0, 0);
        beforeIs(2, 0, NONE, NONE);
        beforeIs(2, 99, NONE, NONE);
        law("slip 50;goes 0;");
        book(0, "text 0 1 born 0;");
        readAll(0, 0, 999999);
        beforeIs(0, 99, 99994900, 100004999);
        beforeIs(0, 0, 999949, 1000049);
    }

    @Says("BEFORE a washing: the least (what 0), the greatest (1). NONE: none is possible. NoSuchElementException: no such LEAF, another what, it or that ahead wasn't read (the BOOK need not be KNOWN). IllegalArgumentException (behind that): OFF.")
    static void beforeThrows() {
        book(0, "text 0 4;");
        x.read(0, 0, 60);
        x.read(0, 2, 60);
        for (int off : new int[] {-1, 100, 0, LEAST_INT, GREATEST_INT}) {
            noSuch("leaf 4, off " + off, () -> x.before(0, 4, off, 0));
            noSuch("leaf -1, off " + off, () -> x.before(0, -1, off, 0));
            noSuch("what 2, off " + off, () -> x.before(0, 0, off, 2));
            noSuch("what -1, off " + off, () -> x.before(0, 0, off, -1));
            noSuch("it wasn't read, off " + off, () -> x.before(0, 1, off, 0));
            noSuch("that ahead wasn't read, off " + off, () -> x.before(0, 2, off, 0));
            noSuch("neither was read, off " + off, () -> x.before(0, 3, off, 0));
            noSuch("book 6, off " + off, () -> x.before(6, 0, off, 0));
        }
        for (int off : new int[] {-1, 100, LEAST_INT, GREATEST_INT}) {
            illegal("off " + off, () -> x.before(0, 0, off, 0));
            illegal("off " + off, () -> x.before(0, 0, off, 1));
        }
        due("the book isn't known", x.about(0, 4), 0);
        beforeIs(0, 0, 17, 23);
        law("slip 0;goes 90;");
        book(0, "text 0 2;");
        readAll(0, 40, 100, 0);
        illegal("off 100 where none is possible", () -> x.before(0, 1, 100, 0));
        beforeIs(1, 99, NONE, NONE);
    }

    // ---- told

    /** Two kinds that are turned alike, a wide slip, and two ways that lean to one of them. */
    static void undecided() {
        law("slip 50;goes 0;");
        way(0, "kind 0 9;kind 1 8;");
        way(1, "kind 0 8;kind 1 9;");
        book(0, "text 0 1;text 1 1;");
        x.reader(0, 0, 0, 19);
        x.reader(0, 1, 0, 19);
    }

    static int steppedTwice(int seed) {
        int once = seed * 1103515245 + 12345;
        return once * 1103515245 + 12345;
    }

    @Says("so many times (1 to 100) a BOOK like it, without READINGS, is DRAWN, by one seed that goes on")
    static void oneSeedGoesOn() {
        undecided();
        int seed = 7;
        int sum = 0;
        for (int times = 1; times <= 100; times++) {
            sum += x.told(0, 0, 1, seed);
            seed = steppedTwice(seed);
            due(times + " times", x.told(0, 0, times, 7), sum);
        }
        due("some, but not all", sum > 0 && sum < 100, true);
        due("the other one is told else", x.told(0, 1, 100, 7), 100 - sum);
    }

    @Says("a BOOK like it, without READINGS")
    static void readingsCountForNothing() {
        undecided();
        int hits = x.told(0, 0, 50, 7);
        x.read(0, 0, 999999);
        due("readings count for nothing", x.told(0, 0, 50, 7), hits);
        due("and stay", x.bounds(0, 0, 1), 1000049);
        due("the other leaf is still unread", x.next(0), 1);
        due("nothing is counted", x.count(6), 0);
    }

    @Says("how often WHOSE of it would be that WAY (not, if a READING is refused)")
    static void refusedReadingTellsNothing() {
        law("turn 3;goes 0;slip 0;");
        way(0, "kind 0 99;");
        darkest(0, "text 0 1 born 0;");
        due("999,999", x.dirt(0, 0, 2), 999999);
        due("it is told", x.told(0, 0, 5, 1), 5);
        darkest(0, "text 0 1 born 1;");
        due("1,000,000", x.dirt(0, 0, 2), 1000000);
        due("all are refused", x.told(0, 0, 5, 1), 0);
        darkest(0, "text 1 1;text 0 1 born 1;");
        due("one of two is refused", x.told(0, 0, 5, 1), 0);
        darkest(0, "text 0 1 born 1;text 1 1;");
        due("the other of two is refused", x.told(0, 0, 5, 1), 0);
        law("turn 3;goes 0;slip 1;");
        darkest(0, "text 0 1 born 0;");
        // 16838, 5758, 10113, 17515, 31051 MOD 3, less 1: 1, 0, -1, 0, 0; the first is refused.
        due("some are refused", x.told(0, 0, 5, 1), 4);
        due("not STATUS", x.count(6), 0);
        due("another WAY", x.told(0, 1, 5, 1), 0);
    }

    @Says("TOLD (also of a BOOK that isn't KNOWN; 0 of no LEAVES). NoSuchElementException: also no such WAY. IllegalArgumentException (behind that): how many times.")
    static void toldThrows() {
        way(3, "kind 0 9;");
        due("no leaves", x.told(0, 3, 100, 1), 0);
        illegal("0 times of no leaves", () -> x.told(0, 3, 0, 1));
        book(0, "text 0 1;");
        due("not known, once", x.told(0, 3, 1, 1), 1);
        due("not known, 100 times", x.told(0, 3, 100, 1), 100);
        due("still not known", x.about(0, 4), 0);
        due("a way that tells none", x.told(0, 4, 100, 1), 0);
        for (int times : new int[] {0, 101, -1, LEAST_INT, GREATEST_INT}) {
            illegal(times + " times", () -> x.told(0, 3, times, 1));
            noSuch("way 6, " + times + " times", () -> x.told(0, 6, times, 1));
            noSuch("way -1, " + times + " times", () -> x.told(0, -1, times, 1));
            noSuch("book 6, " + times + " times", () -> x.told(6, 3, times, 1));
        }
        way(3, "");
        due("no way tells a KIND", x.told(0, 3, 100, 1), 0);
    }

    // ---- next

    @Says({"NEXT: the LEAF of a BOOK to read: the least that wasn't read; else that whose TURNS lie farthest apart, of like ones the least",
        "NEXT (also of a BOOK that isn't KNOWN); NONE: no LEAVES."})
    static void nexts() {
        due("no leaves", x.next(0), NONE);
        law("turn 1;goes 0;slip 3;");
        book(0, "text 0 20;text 0 20;");
        for (int leaf = 0; leaf < 40; leaf++) {
            due("the least that wasn't read", x.next(0), leaf);
            x.read(0, leaf, 100);
        }
        due("of like ones the least", x.next(0), 0);
        for (int leaf = 0; leaf < 39; leaf++) {
            x.read(0, leaf, 101);
            due("farthest apart, of like ones the least", x.next(0), leaf + 1);
        }
        x.read(0, 39, 101);
        due("all alike again", x.next(0), 0);
        book(1, "text 0 3;");
        x.read(1, 2, 0);
        x.read(1, 0, 100);
        due("the one between", x.next(1), 1);
        book(2, "text 0 2;");
        readAll(2, 40, 0, 3);
        // 0 to 3, 0 to 6.
        due("cut at 0 it lies less apart", x.next(2), 1);
    }

    @Says("(STRANGE ones ahead of all)")
    static void strangeOnesFirst() {
        law("turn 10;goes 0;slip 7;");
        book(0, "text 0 4 born 0;");
        readAll(0, 0, 100, 100, 100, 20);
        law("turn 10;goes 0;slip 0;");
        readAll(0, 0, 100, 95, 95, 20);
        // 10 to 10, then 95 and 95 that no TURNS make, 2 to 2.
        due("the least of STRANGE ones", x.next(0), 1);
        book(1, "text 0 2 born 0;");
        law("turn 10;goes 0;slip 50;");
        x.read(1, 0, 100);
        law("turn 10;goes 0;slip 0;");
        x.read(1, 1, 5);
        due("ahead of one that lies 10 apart", x.next(1), 1);
        law("turn 1;goes 0;slip 0;");
        due("else the widest", x.next(1), 0);
    }

    // ---- status and image

    @Says("STATUS: how many calls were refused: 0 of TEXTS with a FAULT, 1 READINGS, 2 READERS, 3 trials.")
    static void statuses() {
        law("slip 0;");
        book(0, "text 0 2;");
        int[] want = new int[4];
        for (int i = 0; i < 3; i++) {
            book(0, "?");
            law("?");
            way(0, "?");
            want[0] += 3;
            statusIs("texts", want);
            x.read(0, 0, -1);
            want[1]++;
            statusIs("readings", want);
            x.read(0, 0, 99);
            x.read(0, 1, 99);
            x.drawn(0, 1);
            want[1] += 2;
            statusIs("drawings", want);
            x.reader(0, 0, 1, 0);
            want[2]++;
            statusIs("readers", want);
            x.blank(0, 0);
            want[3]++;
            statusIs("trials", want);
        }
        for (int i = 0; i < 26; i++) {
            x.feed(0, 0, 0, 0, 0);
        }
        x.gone(0);
        x.turn(0);
        x.restore();
        noSuch("reader", () -> x.reader(0, 6, 1, 0));
        noSuch("read", () -> x.read(0, 2, -1) ? 1 : 0);
        noSuch("book", () -> x.book(6, 1));
        illegal("law", () -> x.law(501));
        statusIs("what is answered else, or throws, isn't counted", want);
    }

    static void statusIs(String when, int... want) {
        for (int i = 0; i < 4; i++) {
            due("status " + i + " behind " + when, x.count(5 + i), want[i]);
        }
    }

    @Says("AN IMAGE keeps READINGS' BOUNDS of all BOOKS and STATUS.")
    static void imageOfAllBooks() {
        for (int b = 0; b <= 5; b++) {
            book(b, "text 0 2;");
            x.read(b, 0, 100 + b);
        }
        book(0, "?");
        x.read(0, 0, -1);
        x.reader(0, 0, 1, 0);
        x.blank(0, 0);
        x.image();
        for (int b = 0; b <= 5; b++) {
            x.read(b, 0, 103 + b);
            x.read(b, 1, 60);
        }
        for (int i = 0; i < 2; i++) {
            law("?");
            x.read(0, 0, -1);
            x.reader(0, 0, 1, 0);
            x.blank(0, 0);
        }
        statusIs("more", 3, 3, 3, 3);
        due("restore", x.restore(), true);
        statusIs("restore", 1, 1, 1, 1);
        for (int b = 0; b <= 5; b++) {
            int at = b;
            due("lesser of book " + b, x.bounds(b, 0, 0), 97 + b);
            due("greater of book " + b, x.bounds(b, 0, 1), 103 + b);
            noSuch("not read then, book " + b, () -> x.bounds(at, 1, 0));
        }
    }

    @Says("AN IMAGE keeps READINGS' BOUNDS")
    static void imageKeepsNothingElse() {
        way(0, "kind 0 1;");
        exact(0, "text 0 1;", 5);
        x.fitted(0, 0, NONE);
        x.image();
        law("turn 7;goes 8;slip 9;");
        way(0, "kind 0 2;");
        x.reader(0, 0, 0, 0);
        x.blank(1, 1);
        exact(1, "text 0 1;", 6);
        x.fitted(1, 0, NONE);
        law("turn 7;goes 8;slip 9;");
        book(2, "zz");
        tape("text 0 1;");
        due("restore", x.restore(), true);
        due("the law stays", x.count(0) + x.count(1) + x.count(2), 24);
        due("the way stays", x.turnings(0, 0, 0), 2);
        due("the reader stays", x.about(0, 2), 1);
        due("the trial stays", x.count(4), 1);
        due("the tape stays", x.count(3), 20);
        due("the fault stays", x.fault(), 0);
        due("years stay", x.years(0), 3);
        due("the book told since stays", x.about(1, 0), 1);
        noSuch("but has no readings", () -> x.bounds(1, 0, 0));
        due("bounds by the law of then", x.bounds(0, 0, 1), 45);
        due("status 0 is as then", x.count(5), 0);
    }

    @Says("AN IMAGE is kept, in place of another one.")
    static void newerImage() {
        book(0, "text 0 1;");
        x.image();
        x.read(0, 0, 100);
        x.image();
        x.read(0, 0, 103);
        due("restore", x.restore(), true);
        due("lesser by the newer one", x.bounds(0, 0, 0), 97);
        due("greater by the newer one", x.bounds(0, 0, 1), 103);
        x.read(0, 0, 97);
        due("restore again", x.restore(), true);
        due("it is still kept", x.bounds(0, 0, 0), 97);
        due("it is still kept", x.bounds(0, 0, 1), 103);
    }

    @Says("False: there is none.")
    static void noImage() {
        book(0, "text 0 1;");
        x.read(0, 0, 100);
        x.read(0, 0, -1);
        due("there is none", x.restore(), false);
        due("readings stay", x.bounds(0, 0, 0), 97);
        due("status stays", x.count(6), 1);
        due("still none", x.restore(), false);
        fresh();
        x.image();
        due("one of nothing is one", x.restore(), true);
    }

    @Says("It is as the IMAGE again (of a BOOK that was told anew since there are no READINGS): true.")
    static void toldAnewSince() {
        for (int b = 0; b <= 2; b++) {
            book(b, "text 0 1;");
            x.read(b, 0, 100);
        }
        x.image();
        due("told anew alike", book(0, "text 0 1;"), 0);
        due("a fault isn't told anew", book(1, "text 0 1;?"), 1);
        x.read(0, 0, 200);
        due("restore", x.restore(), true);
        noSuch("told anew: none of then, none of now", () -> x.bounds(0, 0, 0));
        due("told anew: not known", x.about(0, 4), 0);
        due("with a fault: as then", x.bounds(1, 0, 1), 103);
        due("told once: as then", x.bounds(2, 0, 1), 103);
        x.read(0, 0, 300);
        due("restore again", x.restore(), true);
        noSuch("still none", () -> x.bounds(0, 0, 0));
        x.read(0, 0, 300);
        x.image();
        x.read(0, 0, 303);
        due("restore the newer one", x.restore(), true);
        due("told ahead of the newer one", x.bounds(0, 0, 0), 297);
        due("told anew, twice", book(2, "text 0 1;") + book(2, "text 0 1;"), 0);
        x.read(2, 0, 100);
        due("restore behind that", x.restore(), true);
        noSuch("none", () -> x.bounds(2, 0, 0));
        due("the others as then", x.bounds(1, 0, 0), 97);
    }

    // ---- an object's life

    @Says("An object is used for at most 512 calls after it has been made")
    static void fiveHundredAndTwelveCalls() {
        due("1", book(0, "text 0 1;"), 0);
        for (int call = 3; call <= 511; call++) {
            due("call " + call, x.read(0, 0, -1), false);
        }
        due("call 512", x.count(6), 509);
    }

    public static void main(String[] args) {
        runAll(ThumbBookEdgesTown.class);
    }
}
