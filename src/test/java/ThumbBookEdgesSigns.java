import java.util.Arrays;

/** What a known book tells: part 4 of the terms, and promises 18 to 25, sentence by sentence. */
public final class ThumbBookEdgesSigns extends Desk {
    static int[] steps(int n, int first, int step) {
        int[] row = new int[n];
        for (int i = 0; i < n; i++) {
            row[i] = first + i * step;
        }
        return row;
    }

    // ---- sleepy pairs and their chance

    static void pairsAre(String text, int less, int greater, int... turns) {
        exact(0, text, turns);
        due("less in " + text, x.sleepy(0, 0), less);
        due("greater in " + text, x.sleepy(0, 1), greater);
    }

    @Says("SLEEPY pairs: of LEAVES of one TEXT those whose later one's MIDST is less, that whose is greater.")
    static void sleepyPairs() {
        pairsAre("text 0 1;", 0, 0, 5);
        pairsAre("text 0 2;", 1, 0, 5, 4);
        pairsAre("text 0 2;", 0, 1, 5, 6);
        pairsAre("text 0 2;", 0, 0, 5, 5);
        pairsAre("text 0 3;", 2, 1, 5, 3, 4);
        pairsAre("text 0 1;text 0 1;", 0, 0, 5, 4);
        pairsAre("text 0 2;text 0 2;", 1, 1, 5, 4, 2, 3);
        pairsAre("text 0 20;text 0 20;", 380, 0, steps(40, 100, -1));
        pairsAre("text 0 20;text 0 20;", 0, 380, steps(40, 100, 1));
    }

    @Says("that whose is greater")
    static void strangeLeafIsLeast() {
        law("turn 10;goes 0;slip 0;");
        book(0, "text 0 3 born 0;");
        readAll(0, 0, 10, 15, 0);
        due("a STRANGE one's MIDST is 0: less", x.sleepy(0, 0), 2);
        due("0 and 0 are like", x.sleepy(0, 1), 0);
    }

    static void chanceIs(String text, int want, int... turns) {
        exact(0, text, turns);
        due("chance in " + text, x.sleepy(0, 2), want);
    }

    @Says("numbers by how many, 1,000,000 of none at first; for each LEAF that is the j-th of its TEXT (j 2 on): each number becomes those of 0 to j - 1 fewer together, by j, cut down; then those of as many or more together.")
    static void chances() {
        chanceIs("text 0 1;", 1000000, 5);
        chanceIs("text 0 1;text 0 1;", 1000000, 5, 4);
        chanceIs("text 0 2;", 1000000, 4, 5);
        chanceIs("text 0 2;", 1000000, 5, 5);
        chanceIs("text 0 2;", 500000, 5, 4);
        // 166666, 333333, 333333, 166666.
        chanceIs("text 0 3;", 999998, 1, 2, 3);
        chanceIs("text 0 3;", 833332, 1, 3, 2);
        chanceIs("text 0 3;", 499999, 2, 3, 1);
        chanceIs("text 0 3;", 166666, 3, 2, 1);
        // 250000, 500000, 250000.
        chanceIs("text 0 2;text 1 2;", 1000000, 1, 2, 1, 2);
        chanceIs("text 0 2;text 1 2;", 750000, 2, 1, 1, 2);
        chanceIs("text 0 2;text 1 2;", 250000, 2, 1, 2, 1);
        chanceIs("text 0 4;", 41666, 4, 3, 2, 1);
        chanceIs("text 0 4;", 999995, 1, 2, 3, 4);
    }

    @Says("CHANCE of as many of the first or more, in millionths")
    static void chancesOfManyLeaves() {
        chanceIs("text 0 20;", 999479, steps(20, 0, 1));
        chanceIs("text 0 20;", 0, steps(20, 20, -1));
        fresh();
        chanceIs("text 0 20;text 0 20;", 998251, steps(40, 0, 1));
        chanceIs("text 0 20;text 0 20;", 0, steps(40, 40, -1));
        fresh();
        int[] oneFalls = steps(40, 100, 1);
        for (int i = 20; i < 40; i++) {
            oneFalls[i] = 100 - i;
        }
        chanceIs("text 0 20;text 0 20;", 508209, oneFalls);
    }

    @Says("SLEEPY pairs whose later one is less (what 0), greater (1), CHANCE (2). NoSuchElementException: also another what.")
    static void sleepyWhats() {
        exact(0, "text 0 2;", 5, 4);
        for (int what : new int[] {-1, 3, LEAST_INT, GREATEST_INT}) {
            noSuch("what " + what, () -> x.sleepy(0, what));
        }
    }

    // ---- humps

    /** Of as many texts of one leaf as there are lights, of the kinds 0 on. */
    static void lightsOf(int book, int... lights) {
        exact(book, kindsOfOneLeaf(lights.length), lights);
    }

    static void humpsAre(int groups, long spreads, int... groupOfKind) {
        due(groups + " groups", x.humps(0, groups), spreads);
        for (int kind = 0; kind < groupOfKind.length; kind++) {
            due(groups + " groups, kind " + kind, x.hump(0, groups, kind), groupOfKind[kind]);
        }
    }

    static void noHumps(int groups) {
        noSuch(groups + " groups", () -> x.humps(0, groups));
        noSuch(groups + " groups, kind 0", () -> x.hump(0, groups, 0));
    }

    @Says({"parted into h GROUPS (1 to 4, as many as there are KINDS at most) of neighbours such that SPREADS together are least",
        "HUMPS: SPREADS together. NoSuchElementException: also another number of GROUPS."})
    static void numberOfGroups() {
        int[] lights = {5, 105, 205, 305, 405};
        for (int kinds = 1; kinds <= 5; kinds++) {
            lightsOf(0, Arrays.copyOf(lights, kinds));
            for (int groups : new int[] {LEAST_INT, -1, 0, 5, GREATEST_INT}) {
                noHumps(groups);
            }
            for (int groups = 1; groups <= 4; groups++) {
                if (groups > kinds) {
                    noHumps(groups);
                } else {
                    long whole = kinds == groups ? 0 : 1;
                    due(groups + " groups of " + kinds, Math.min(1, x.humps(0, groups)), whole);
                    due("the last group", x.hump(0, groups, kinds - 1), groups - 1);
                }
            }
        }
        lightsOf(0, steps(12, 0, 1));
        // Four times three neighbours: each 3 by (0, 1, 4 together) less 9, by 3.
        humpsAre(4, 4 * 2000, 0, 0, 0, 1, 1, 1, 2, 2, 2, 3, 3, 3);
        noHumps(5);
        noHumps(12);
    }

    @Says("HUMPS: LIGHTS of KINDS that a BOOK has, by their size")
    static void bySize() {
        lightsOf(0, 9, 5, 1, 12, 6);
        // 1 | 5 6 | 9 12.
        humpsAre(3, 500 + 4500, 2, 1, 0, 2, 1);
        humpsAre(4, 500, 2, 1, 0, 3, 1);
        lightsOf(0, 50, 40, 30, 20, 10);
        humpsAre(4, 50000, 3, 3, 2, 1, 0);
        humpsAre(2, 50000 + 200000, 1, 1, 1, 0, 0);
    }

    @Says("SPREAD of n numbers: 1000 by (n by the sum of squares, less the square of the sum), by n, cut down.")
    static void spreads() {
        lightsOf(0, 7);
        humpsAre(1, 0, 0);
        lightsOf(0, 1, 2);
        humpsAre(1, 500, 0, 0);
        humpsAre(2, 0, 0, 1);
        lightsOf(0, 1, 2, 2);
        humpsAre(1, 666, 0, 0, 0);
        // Each is cut down by itself: 666 and 666.
        lightsOf(0, 1, 2, 2, 101, 102, 102);
        humpsAre(2, 1332, 0, 0, 0, 1, 1, 1);
        // The greatest lights: six of none, six of 999,959.
        lightsOf(0, 0, 0, 0, 0, 0, 0, 999959, 999959, 999959, 999959, 999959, 999959);
        humpsAre(1, 2999754005043000L, 0, 0, 0, 0, 0, 0, 0, 0, 0, 0, 0, 0);
        humpsAre(2, 0, 0, 0, 0, 0, 0, 0, 1, 1, 1, 1, 1, 1);
    }

    @Says("Of like ones the first GROUP of fewest, and so on.")
    static void firstGroupOfFewest() {
        lightsOf(0, 1, 2, 3);
        humpsAre(2, 500, 0, 1, 1);
        lightsOf(0, 1, 2, 3, 4);
        humpsAre(3, 500, 0, 1, 2, 2);
        lightsOf(0, 1, 2, 3, 4, 5);
        humpsAre(4, 500, 0, 1, 2, 3, 3);
        humpsAre(3, 1000, 0, 1, 1, 2, 2);
        lightsOf(0, 1, 101, 102, 103);
        humpsAre(3, 500, 0, 1, 2, 2);
        lightsOf(0, 4, 4, 4, 4, 4);
        humpsAre(2, 0, 0, 1, 1, 1, 1);
        humpsAre(3, 0, 0, 1, 2, 2, 2);
        humpsAre(4, 0, 0, 1, 2, 3, 3);
    }

    @Says("The GROUP of a KIND (0 the one of least LIGHTS) by so many GROUPS; KINDS of like LIGHT lie by their numbers. NoSuchElementException: also no such KIND in it.")
    static void groupOfAKind() {
        exact(0, "text 11 1;text 3 1;text 0 1;", 1, 9, 5);
        due("least", x.hump(0, 3, 11), 0);
        due("middle", x.hump(0, 3, 0), 1);
        due("greatest", x.hump(0, 3, 3), 2);
        exact(0, "text 11 1;text 3 1;text 0 1;", 7, 7, 7);
        due("like: 0", x.hump(0, 3, 0), 0);
        due("like: 3", x.hump(0, 3, 3), 1);
        due("like: 11", x.hump(0, 3, 11), 2);
        due("of two: 0", x.hump(0, 2, 0), 0);
        due("of two: 3", x.hump(0, 2, 3), 1);
        for (int kind : new int[] {-1, 1, 10, 12, LEAST_INT, GREATEST_INT}) {
            noSuch("kind " + kind, () -> x.hump(0, 1, kind));
        }
        exact(0, "text 2 1;text 1 1;text 2 1;", 1, 5, 9);
        noSuch("two kinds in three texts", () -> x.hump(0, 3, 1));
        due("a kind in two texts", x.hump(0, 2, 2), 1);
    }

    // ---- fitted

    static void fits(int way, int other, int differs, int first, int second) {
        due("fitted by " + way + ", " + other, x.fitted(0, way, other), differs);
        due("x by " + way + ", " + other, x.years(0), first);
        due("y by " + way + ", " + other, x.years(1), second);
    }

    @Says("FITTED by one WAY, or two: YEARS x (and y), 0 to 60 each")
    static void sixtyYears() {
        way(0, "kind 0 1;");
        way(1, "kind 1 1;");
        int[] turns = {0, 1, 59, 60, 61, 100};
        for (int turned : turns) {
            exact(0, "text 0 1;text 1 1;", turned, turned);
            int years = Math.min(60, turned);
            fits(0, NONE, 2 * (turned - years) + 2 * turned, years, 0);
            fits(0, 1, 4 * (turned - years), years, years);
        }
    }

    @Says({"such that over all LEAVES what TURNINGS of a YEAR by the first by x, and by the second by y, differ from half of MIDST, doubled, is least together",
        "sum of 2 x a and 2 y b less MIDST, without sign; of like ones the least x, then y."})
    static void leastYears() {
        way(0, "kind 0 2;");
        way(1, "kind 5 1;");
        exact(0, "text 0 1;", 1);
        fits(0, NONE, 2, 0, 0);
        fits(1, 0, 2, 0, 0);
        fits(0, 1, 2, 0, 0);
        fits(0, 0, 2, 0, 0);
        fits(1, NONE, 2, 0, 0);
        exact(0, "text 0 1;", 10);
        fits(0, 0, 0, 0, 5);
        fits(0, 1, 0, 5, 0);
        exact(0, "text 0 1;", 13);
        fits(0, NONE, 2, 6, 0);
        law("turn 2;goes 0;slip 1;");
        way(2, "kind 0 1;");
        book(0, "text 0 1 born 0;");
        readAll(0, 0, 3);
        // MIDST 3: 2 and 4 are like.
        fits(2, NONE, 1, 1, 0);
        law("turn 10;goes 0;slip 0;");
        book(0, "text 0 2 born 0;");
        readAll(0, 0, 15, 10);
        // A STRANGE one's MIDST is 0: years 0 and 1 are like.
        fits(2, NONE, 2, 0, 0);
        exact(0, "text 0 2;", 130, 10);
        way(3, "kind 0 99 sleepy 50;");
        // 2 by 99 and 49, less 260 and 20.
        fits(3, NONE, 62 + 78, 1, 0);
    }

    @Says("FITTED by one WAY, or by two (other NONE: one): what differs together; YEARS are kept. NoSuchElementException: also no such WAYS.")
    static void fittedThrows() {
        way(0, "kind 0 1;");
        exact(0, "text 0 1;", 7);
        fits(0, NONE, 0, 7, 0);
        for (int w : new int[] {NONE, -2, 6, LEAST_INT, GREATEST_INT}) {
            noSuch("the first " + w, () -> x.fitted(0, w, NONE));
            noSuch("the first of two " + w, () -> x.fitted(0, w, 0));
        }
        for (int w : new int[] {-2, 6, LEAST_INT, GREATEST_INT}) {
            noSuch("the second " + w, () -> x.fitted(0, 0, w));
        }
        noSuch("not known", () -> x.fitted(1, 0, NONE));
        due("YEARS are kept", x.years(0), 7);
        due("a way of none", x.fitted(0, 5, 5), 14);
        due("x", x.years(0), 0);
    }

    @Says("YEARS of the latest fitted(): x (what 0), y (1; 0 of one WAY). NoSuchElementException: there was none, another what.")
    static void keptYears() {
        noSuch("there was none: x", () -> x.years(0));
        noSuch("there was none: y", () -> x.years(1));
        noSuch("a call that throws", () -> x.fitted(0, 0, NONE));
        noSuch("is none", () -> x.years(0));
        way(0, "kind 0 1;");
        way(1, "kind 1 1;");
        exact(0, "text 0 1;text 1 1;", 7, 9);
        fits(0, 1, 0, 7, 9);
        fits(0, NONE, 18, 7, 0);
        for (int what : new int[] {-1, 2, LEAST_INT, GREATEST_INT}) {
            noSuch("what " + what, () -> x.years(what));
        }
        book(0, "");
        due("they stay when the book is told anew", x.years(0), 7);
    }

    // ---- whose

    @Says({"WHOSE: of WAYS that tell some KIND the one for which, over KINDS of the BOOK", "WHOSE; NONE: no WAY tells a KIND."})
    static void waysThatTellSome() {
        lightsOf(0, 30, 10);
        due("no way tells a kind", x.whose(0), NONE);
        way(5, "kind 0 1;kind 1 9;");
        due("the only one, however bad", x.whose(0), 5);
        way(0, "");
        due("one of no line tells none", x.whose(0), 5);
        due("a fault", way(0, "kind 0 3;kind 1 1;?"), 1);
        due("tells none either", x.whose(0), 5);
        way(3, "kind 0 3;kind 1 1;");
        due("a better one", x.whose(0), 3);
        way(3, "");
        due("it is gone", x.whose(0), 5);
        way(5, "");
        due("none is left", x.whose(0), NONE);
        due("and no status", x.count(5), 1);
    }

    @Says("(what it would make of a KIND: TURNINGS of a YEAR of its LEAVES in this BOOK together, by how many, cut down); of like ones the least.")
    static void whatItWouldMake() {
        exact(0, "text 0 1;text 1 2;", 30, 10, 10);
        way(4, "kind 0 3;kind 1 1;");
        way(2, "kind 0 6;kind 1 2;");
        due("of like ones the least", x.whose(0), 2);
        way(2, "kind 0 6;kind 1 2 sleepy 1;");
        // 2 and 1 by 2 are 1: 30 by 7 less 6 by 40, and 10 by 7 less 1 by 40: 60.
        due("cut down it is worse", x.whose(0), 4);
        way(1, "kind 0 6;kind 1 2 sleepy 50;kind 2 99;");
        way(4, "");
        due("2 and 1 again, like to way 2: the least", x.whose(0), 1);
        exact(0, "text 0 1;text 1 1;", 0, 0);
        due("no light at all: all are like", x.whose(0), 1);
        way(0, "kind 11 1;");
        exact(0, "text 0 1;text 1 1;", 30, 10);
        due("one that makes nothing of it differs by nothing", x.whose(0), 0);
    }

    @Says("LIGHT by all that it would make, less what it would make by all LIGHTS, without sign, are least together")
    static void apartWithoutSign() {
        lightsOf(0, 10, 20, 30);
        way(0, "kind 0 1;kind 1 2;kind 2 4;");
        // 10, 20, 30 by 7 less 60, 120, 240: 10, 20, 30.
        way(1, "kind 0 1;kind 1 3;kind 2 3;");
        // 70, 140, 210 less 60, 180, 180: 10, 40, 30.
        due("60 below 80", x.whose(0), 0);
        way(0, "kind 0 2;kind 1 2;kind 2 4;");
        // By 8: 80, 160, 240 less 120, 120, 240: 40, 40, 0.
        due("80 and 80: the least", x.whose(0), 0);
        way(2, "kind 0 9;kind 1 18;kind 2 27;");
        due("none apart", x.whose(0), 2);
        lightsOf(0, 10, 10, 10);
        way(0, "kind 0 1;kind 1 3;kind 2 3;");
        way(1, "kind 0 7;kind 1 8;kind 2 6;");
        way(2, "");
        // By 7: 70 each less 30, 90, 90: 40, 20, 20. By 21: 210 each less 210, 240, 180: 0, 30, 30.
        due("60 below 80, of all three kinds", x.whose(0), 1);
        way(1, "kind 0 8;kind 1 6;kind 2 7;");
        due("60 below 80, however they lie", x.whose(0), 1);
    }

    // ---- order

    static void orderIs(int want, int leaf, int place, int then) {
        due("want", x.order(0, 0), want);
        due("leaf", x.order(0, 1), leaf);
        due("place", x.order(0, 2), place);
        due("want then", x.order(0, 3), then);
    }

    /** Of leaves BORN of 0 and read so, without SLIP, half of all going through. */
    static void halfThrough(String more, int... shades) {
        law("turn 1;goes 50;slip 0;");
        book(0, "text 0 " + shades.length + " born 0;" + more);
        readAll(0, 0, shades);
    }

    @Says("ORDER: WANT of an order of LEAVES: how far the greatest OWN dirt UNDONE is below 0, of all LEAVES together, as they lie so.")
    static void wants() {
        halfThrough("", 10, 5);
        orderIs(0, NONE, NONE, NONE);
        halfThrough("", 10, 4);
        orderIs(1, 0, 1, 0);
        halfThrough("", 11, 5);
        orderIs(0, NONE, NONE, NONE);
        halfThrough("", 100, 0, 0, 100, 0);
        // 50 and 50; one of them goes by any move of a dark one to the end or beside the other.
        due("of all leaves together", x.order(0, 0), 100);
        halfThrough("spilt 0 5;", 2);
        orderIs(3, NONE, NONE, NONE);
        law("turn 1;goes 50;slip 3;");
        book(0, "text 0 2 born 0;");
        readAll(0, 0, 20, 5);
        // The greatest: 8 less half of 17.
        orderIs(0, NONE, NONE, NONE);
        readAll(0, 0, 22, 3);
        // 6 less half of 19.
        orderIs(3, 0, 1, 0);
    }

    @Says("of like ones the least LEAF, then place; if none is less than as it is, there is none.")
    static void moves() {
        halfThrough("", 100, 0, 50, 50);
        // Leaf 0 may lie at 1, 2 or 3, or leaf 1 at 0.
        orderIs(50, 0, 1, 0);
        halfThrough("", 60, 100, 20, 50);
        // Moves of leaf 0 and 1 leave 10 at least; leaf 2 ahead of all leaves nothing.
        orderIs(30, 2, 0, 0);
        halfThrough("", 50, 100, 20, 20);
        // Leaf 0 between 1 and 2 leaves 5; so does leaf 1 at 0 or 3.
        orderIs(30, 0, 1, 5);
        halfThrough("", 0, 100, 10);
        orderIs(40, 1, 2, 0);
        halfThrough("", 100, 10);
        orderIs(40, 0, 1, 0);
        halfThrough("", 100, 10, 10);
        orderIs(40, 0, 2, 0);
        halfThrough("spilt 0 5;spilt 1 5;", 2, 2);
        // 3 and 4; the other way round the same.
        orderIs(7, NONE, NONE, NONE);
        halfThrough("", 0, 0, 0);
        orderIs(0, NONE, NONE, NONE);
        halfThrough("", 9);
        orderIs(0, NONE, NONE, NONE);
    }

    @Says("A MOVE: of taking one LEAF out and putting it at another place (among the others) that of least WANT")
    static void oneMoveOnly() {
        halfThrough("", 100, 0, 0, 100, 0);
        // Leaf 0 just ahead of leaf 3: 0 0 100 100 0 is left with 50; no one move mends both.
        orderIs(100, 0, 2, 50);
        int[] dark = new int[20];
        dark[0] = 100;
        halfThrough("", dark);
        orderIs(50, 0, 19, 0);
        int[] last = new int[20];
        last[18] = 100;
        halfThrough("", last);
        orderIs(50, 18, 19, 0);
    }

    @Says("ORDER: WANT (what 0); of the MOVE the LEAF (1), its place then (2), WANT then (3); NONE of 1 to 3: there is none. NoSuchElementException: also another what.")
    static void orderWhats() {
        halfThrough("", 10, 4);
        for (int what : new int[] {-1, 4, LEAST_INT, GREATEST_INT}) {
            noSuch("what " + what, () -> x.order(0, what));
        }
        halfThrough("", 10, 10);
        for (int what : new int[] {-1, 4}) {
            noSuch("what " + what + " without a move", () -> x.order(0, what));
        }
    }

    // ---- where it falls open

    static void opens(String text, int[] turns, int... want) {
        exact(0, text, turns);
        due("how many in " + text, x.falls(0, NONE), want.length);
        for (int i = 0; i < want.length; i++) {
            due("the " + i + ". in " + text, x.falls(0, i), want[i]);
        }
        noSuch("one more in " + text, () -> x.falls(0, want.length));
    }

    @Says("FALLS OPEN: at LEAVES k and k + 1 whose lesser TURNS are both above the greater ones of all other LEAVES of their TEXTS.")
    static void fallsOpen() {
        opens("text 0 1;", new int[] {5});
        opens("text 0 2;", new int[] {0, 0}, 0);
        opens("text 0 1;text 0 1;", new int[] {0, 0}, 0);
        opens("text 0 3;", new int[] {5, 5, 4}, 0);
        opens("text 0 3;", new int[] {5, 5, 5});
        opens("text 0 3;", new int[] {4, 5, 5}, 1);
        opens("text 0 3;", new int[] {6, 4, 5});
        opens("text 0 3;text 0 1;", new int[] {1, 1, 2, 2}, 2);
        opens("text 0 2;text 0 2;", new int[] {1, 2, 2, 1}, 0, 1, 2);
        opens("text 0 2;text 0 2;", new int[] {1, 2, 2, 2}, 0, 2);
        opens("text 0 2;text 0 2;", new int[] {2, 2, 2, 1}, 0, 2);
        opens("text 0 2;text 0 1;text 0 2;", new int[] {1, 9, 1, 9, 1}, 0, 3);
        int[] last = new int[20];
        last[18] = 1;
        last[19] = 1;
        opens("text 0 20;", last, 18);
    }

    @Says("whose lesser TURNS are both above the greater ones")
    static void lesserAboveGreater() {
        law("turn 1;goes 0;slip 2;");
        book(0, "text 0 3 born 0;");
        readAll(0, 0, 14, 14, 9);
        // 12 to 16 twice, 7 to 11.
        due("12 above 11", x.falls(0, NONE), 1);
        book(0, "text 0 3 born 0;");
        readAll(0, 0, 14, 14, 10);
        due("12 not above 12", x.falls(0, NONE), 0);
        book(0, "text 0 3 born 0;");
        readAll(0, 0, 14, 13, 9);
        due("11 not above 11: the second", x.falls(0, NONE), 0);
        book(0, "text 0 3 born 0;");
        readAll(0, 0, 13, 14, 9);
        due("11 not above 11: the first", x.falls(0, NONE), 0);
    }

    @Says("FALLS OPEN: how many such k (i NONE), the i-th. NoSuchElementException: also there is none.")
    static void fallsWhats() {
        exact(0, "text 0 2;text 0 2;", 1, 2, 2, 1);
        due("how many", x.falls(0, NONE), 3);
        due("the last", x.falls(0, 2), 2);
        for (int i : new int[] {3, -2, LEAST_INT, GREATEST_INT}) {
            noSuch("the " + i + ".", () -> x.falls(0, i));
        }
    }

    public static void main(String[] args) {
        runAll(ThumbBookEdgesSigns.class);
    }
}
