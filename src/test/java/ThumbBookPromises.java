/** Each promise of the document by hand: ordinary inputs, the edges that it names, wrong inputs. */
public final class ThumbBookPromises extends Desk {
    static void start(int number) {
        on(number);
        fresh();
    }

    static void on(int promise) {
        where = "promise " + promise;
    }

    static void newObject() {
        start(1);
        for (int b = 0; b < 6; b++) {
            for (int what = 0; what <= 6; what++) {
                due("about " + b + " " + what, x.about(b, what), 0);
            }
        }
        due("turn", x.count(0), 2);
        due("goes", x.count(1), 20);
        due("slip", x.count(2), 3);
        for (int what = 3; what <= 8; what++) {
            due("count " + what, x.count(what), 0);
        }
        due("fault", x.fault(), NONE);
        due("way", x.turnings(5, 11, 0), 0);
        due("NONE", ThumbBook.NONE, -1);
    }

    static void feed() {
        start(2);
        // "text 0 1;" and blanks: the highest byte of each number comes first.
        due("first", x.feed(0x74657874, 0x20302031, 0x3B202020, 0x20202020, 0x20202020), 20);
        due("what came", x.book(0, 20), 0);
        due("leaves", x.about(0, 0), 1);
        for (int i = 1; i <= 25; i++) {
            due("feed " + i, x.feed(0, 0, 0, 0, 0), 20 * i);
        }
        due("too much", x.feed(0, 0, 0, 0, 0), NONE);
        due("stays", x.count(3), 500);
        due("a byte above 127 is no token", x.book(0, 500), 1);
        due("feed again", x.feed(-1, -1, -1, -1, -1), 20);
        due("bytes 255", x.book(0, 1), 1);
    }

    static void bookTexts() {
        start(3);
        due("told", book(5, "text 1 3 born 10;text 4 2;hair 5;spilt 1 7;"), 0);
        due("tape is empty", x.count(3), 0);
        due("leaves", x.about(5, 0), 5);
        x.reader(5, 0, 0, 500);
        x.read(5, 0, 10);
        due("a fault", book(5, "text 1 3 born;"), 1);
        due("tape is empty by a fault too", x.count(3), 0);
        due("it stays: leaves", x.about(5, 0), 5);
        due("it stays: readers", x.about(5, 2), 1);
        due("it stays: readings", x.bounds(5, 0, 0), 7);
        due("anew", book(5, "text 2 1;"), 0);
        due("anew: leaves", x.about(5, 0), 1);
        due("anew: hair", x.about(5, 3), 0);
        due("anew: no readers", x.about(5, 2), 0);
        noSuch("anew: no readings", () -> x.bounds(5, 0, 0));
        due("empty", book(5, ""), 0);
        due("empty: leaves", x.about(5, 0), 0);
        tape("text 1 2;");
        noSuch("book 6", () -> x.book(6, 0));
        noSuch("book -1 comes first", () -> x.book(-1, -1));
        noSuch("book 6 comes first", () -> x.book(6, 501));
        illegal("n 21 of 20", () -> x.book(0, 21));
        illegal("n -1", () -> x.book(0, -1));
        due("nothing changed", x.count(3), 20);
        due("n below the tape", x.book(0, 9), 0);
        due("n below the tape: leaves", x.about(0, 0), 2);
        due("blanks count for nothing", book(0, "  text\n1  2born 7later 8 ;;".substring(0, 26)), 0);
        due("born", x.leaf(0, 1, 3), 7);
        due("later", x.leaf(0, 1, 4), 8);
        due("500 bytes", book(0, "text 0 1;" + blanks(482) + "text 0 1;"), 0);
        due("500 bytes: leaves", x.about(0, 0), 2);
    }

    static void bookFaults() {
        start(3);
        bookFault("text", 1, 4);
        bookFault("text  ", 1, 6);
        bookFault("text 1 1", 1, 8);
        bookFault("text 1 1 later 1 born 1;", 1, 17);
        bookFault("text born 1;", 1, 5);
        bookFault(" book", 1, 1);
        bookFault("text 1 1;;", 1, 9);
        bookFault("Text 1 1;", 1, 0);
        bookFault("text 1, 1;", 1, 6);
        bookFault("text\t1 1;", 1, 4);
        bookFault("texts 1 1;", 1, 0);
        bookFault("textz 1 1;", 1, 0);
        bookFault("xext 1 1;", 1, 0);
        bookFault("tex 1 1;", 1, 0);
        bookFault("12345", 1, 0);
        bookFault("hair 1 12345;", 1, 7);
        bookFault("text 12 1;", 2, 5);
        bookFault("text 00001 1;", 2, 5);
        due("four digits", book(0, "text 0001 0020;"), 0);
        bookFault("text 1 0;", 2, 7);
        bookFault("text 1 21;", 2, 7);
        bookFault("text 1 1 born 201;", 2, 14);
        bookFault("text 1 1 later 501;", 2, 15);
        bookFault("hair 101;", 2, 5);
        bookFault("text 1 20;text 1 20;text 1 1;", 2, 27);
        due("40 leaves", book(0, "text 1 20;text 1 20;"), 0);
        bookFault("spilt 0 1;", 3, 6);
        bookFault("spilt 0 1;text 1 1;", 3, 6);
        bookFault("text 1 1;spilt 1 1;", 3, 15);
        bookFault("text 1 1;spilt 9999 0;", 3, 15);
        bookFault("text 1 1;spilt 10000 0;", 2, 15);
        bookFault("text 1 1;spilt 0 0;", 2, 17);
        bookFault("text 1 1;spilt 0 1000;", 2, 17);
        bookFault("text 1 1;spilt 0 1;spilt 0 0;", 5, 25);
        bookFault("washed 501 1;", 2, 7);
        bookFault("washed 500 0;", 2, 11);
        bookFault("washed 500 100;", 2, 11);
        bookFault("washed 7 1;washed 7 1;", 4, 18);
        bookFault("washed 7 1;washed 6 x", 4, 18);
        bookFault("washed 7 1;washed 501 1;", 2, 18);
        bookFault("washed 1 1;washed 2 1;washed 3 1;washed 4 1;washed x", 2, 44);
        due("four washings", book(0, "washed 0 1;washed 2 1;washed 3 1;washed 4 99;"), 0);
        due("hair, the last counts", book(0, "hair 100;hair 0;hair 3;"), 0);
        due("hair", x.about(0, 3), 3);
    }

    static void laws() {
        start(4);
        due("whole", law("slip 50;turn 50;goes 90;"), 0);
        due("turn", x.count(0), 50);
        due("goes", x.count(1), 90);
        due("slip", x.count(2), 50);
        lawFault("turn 3;slip 51;", 2, 12);
        due("it stays", x.count(0), 50);
        due("without: as at first", law("goes 0;"), 0);
        due("turn", x.count(0), 2);
        due("goes", x.count(1), 0);
        due("slip", x.count(2), 3);
        lawFault("turn 0;", 2, 5);
        lawFault("turn 51;", 2, 5);
        lawFault("goes 91;", 2, 5);
        lawFault("turn 1;goes 2;turn", 5, 14);
        lawFault("slip 1;slip 1;", 5, 7);
        lawFault("text 1 1;", 1, 0);
        lawFault("turn 1 1;", 1, 7);
        lawFault("goes", 1, 4);
        tape("turn 3;");
        illegal("n 21", () -> x.law(21));
        illegal("n -1", () -> x.law(-1));
        due("nothing changed", x.count(3), 20);
        due("empty", x.law(0), 0);
        due("goes", x.count(1), 20);
    }

    static void ways() {
        start(5);
        due("told", way(5, "kind 0 1;kind 11 99 sleepy 50;"), 0);
        due("turnings", x.turnings(5, 11, 0), 99);
        due("others stay", x.turnings(4, 11, 0), 0);
        tape("kind 0 0;");
        due("a fault", x.way(5, 9), 2);
        due("it stays", x.turnings(5, 11, 0), 99);
        due("anew", way(5, "kind 1 2;"), 0);
        due("anew: kind 11", x.turnings(5, 11, 0), 0);
        wayFault("kind 12 1;", 2, 5);
        wayFault("kind 1 100;", 2, 7);
        wayFault("kind 1 1 sleepy 51;", 2, 16);
        wayFault("kind 1 1;kind 1 0;", 5, 14);
        wayFault("kind 1 1 sleepy;", 1, 15);
        wayFault("kind 1 1", 1, 8);
        wayFault("sleepy 1;", 1, 0);
        tape("kind 3 4;");
        noSuch("way 6 comes first", () -> x.way(6, -1));
        noSuch("way -1", () -> x.way(-1, 0));
        illegal("n 21", () -> x.way(0, 21));
        illegal("n -1", () -> x.way(0, -1));
        due("nothing changed", x.count(3), 20);
    }

    static void faults() {
        start(6);
        due("at first", x.fault(), NONE);
        book(0, "text 1 x");
        due("of a book", x.fault(), 7);
        illegal("n", () -> x.law(1));
        due("a call that throws leaves it", x.fault(), 7);
        law("");
        due("of the latest", x.fault(), NONE);
        way(0, "x");
        due("of a way", x.fault(), 0);
    }

    static void counts() {
        start(7);
        tape("?");
        due("bytes", x.count(3), 20);
        book(0, "?");
        law("?");
        way(0, "?");
        due("status 0", x.count(5), 3);
        book(0, "text 0 1;");
        x.read(0, 0, -1);
        due("status 1", x.count(6), 1);
        x.reader(0, 0, 1, 0);
        x.reader(0, 0, 1, 0);
        due("status 2", x.count(7), 2);
        x.blank(0, 0);
        due("status 3", x.count(8), 1);
        x.blank(1, 0);
        due("trials", x.count(4), 1);
        noSuch("9", () -> x.count(9));
        noSuch("-1", () -> x.count(-1));
        noSuch("least", () -> x.count(Integer.MIN_VALUE));
    }

    static void abouts() {
        start(8);
        book(2, "text 0 3;text 11 2;text 0 1;hair 9;washed 1 1;washed 2 1;");
        x.reader(2, 0, 0, 0);
        int[] want = {6, 3, 1, 9, 0, 2, 2049};
        for (int what = 0; what < want.length; what++) {
            due("what " + what, x.about(2, what), want[what]);
        }
        for (int leaf = 0; leaf < 6; leaf++) {
            due("not yet known", x.about(2, 4), 0);
            x.read(2, leaf, 50);
        }
        due("known", x.about(2, 4), 1);
        due("no leaves, not known", x.about(0, 4), 0);
        book(3, "text 0 2;");
        x.read(3, 1, 50);
        due("leaf 0 wasn't read", x.about(3, 4), 0);
        noSuch("7", () -> x.about(2, 7));
        noSuch("-1", () -> x.about(2, -1));
        noSuch("book 6", () -> x.about(6, 0));
        noSuch("book -1", () -> x.about(-1, 0));
    }

    static void leaves() {
        start(9);
        book(0, "text 3 2;text 5 3 born 0 later 500;spilt 4 999;text 3 1 later 7;");
        int[][] want = {{3, 0, 0, 40, 0, 0}, {3, 0, 1, 40, 0, 0}, {5, 1, 0, 0, 500, 0}, {5, 1, 1, 0, 500, 0},
            {5, 1, 2, 0, 500, 999}, {3, 2, 0, 40, 7, 0}};
        for (int leaf = 0; leaf < 6; leaf++) {
            for (int what = 0; what < 6; what++) {
                due("leaf " + leaf + " " + what, x.leaf(0, leaf, what), want[leaf][what]);
            }
        }
        noSuch("leaf 6", () -> x.leaf(0, 6, 0));
        noSuch("leaf -1", () -> x.leaf(0, -1, 0));
        noSuch("what 6", () -> x.leaf(0, 0, 6));
        noSuch("what -1", () -> x.leaf(0, 0, -1));
        noSuch("book 6", () -> x.leaf(6, 0, 0));
        book(0, "text 3 5;");
        due("nothing spilt anew", x.leaf(0, 4, 5), 0);
    }

    static void turnings() {
        start(10);
        way(1, "kind 0 10 sleepy 5;kind 1 99 sleepy 50;kind 2 7;");
        int[] want = {10, 9, 9, 8, 8};
        for (int place = 0; place < want.length; place++) {
            due("place " + place, x.turnings(1, 0, place), want[place]);
        }
        due("place 19", x.turnings(1, 0, 19), 0);
        due("half", x.turnings(1, 1, 1), 49);
        due("0 at least", x.turnings(1, 1, 3), 0);
        due("not sleepy", x.turnings(1, 2, 19), 7);
        due("not told", x.turnings(1, 3, 0), 0);
        noSuch("way", () -> x.turnings(6, 0, 0));
        noSuch("kind 12", () -> x.turnings(1, 12, 0));
        noSuch("kind -1", () -> x.turnings(1, -1, 0));
        noSuch("place 20", () -> x.turnings(1, 0, 20));
        noSuch("place -1", () -> x.turnings(1, 0, -1));
    }

    static void readers() {
        start(11);
        due("first", x.reader(0, 5, 0, 500), 1);
        due("one year", x.reader(0, 0, 500, 500), 2);
        due("from -1", x.reader(0, 0, -1, 0), NONE);
        due("to 501", x.reader(0, 0, 0, 501), NONE);
        due("behind", x.reader(0, 0, 2, 1), NONE);
        for (int i = 3; i <= 8; i++) {
            due("reader " + i, x.reader(0, 0, 0, 0), i);
        }
        due("a ninth", x.reader(0, 0, 0, 0), NONE);
        due("status", x.count(7), 4);
        due("another book", x.reader(1, 0, 0, 0), 1);
        noSuch("book", () -> x.reader(6, 0, 0, 0));
        noSuch("way 6", () -> x.reader(0, 6, 2, 1));
        noSuch("way -1", () -> x.reader(0, -1, 0, 0));
        due("status stays", x.count(7), 4);
        on(12);
        due("gone", x.gone(0), 7);
        due("a place is free", x.reader(0, 0, 0, 0), 8);
        due("the last", x.gone(1), 0);
        due("none left", x.gone(1), NONE);
        due("no status", x.count(7), 4);
        noSuch("book", () -> x.gone(6));
        way(0, "kind 0 1;");
        way(1, "kind 0 2;");
        book(1, "text 0 1;");
        x.reader(1, 0, 0, 0);
        x.reader(1, 1, 0, 0);
        x.gone(1);
        due("the latest is gone", x.dirt(1, 0, 3), 1);
    }

    static void dirt() {
        start(13);
        law("turn 3;goes 50;");
        way(0, "kind 0 10 sleepy 50;");
        way(1, "kind 0 1;");
        book(0, "text 0 3 born 7;text 0 1 later 11;hair 4;spilt 1 5;washed 10 50;washed 11 10;");
        x.reader(0, 0, 10, 11);
        x.reader(0, 1, 11, 12);
        // Leaf 0: 30, washed 15; and 33, 48, washed 43; and 3.
        due("leaf 0 own", x.dirt(0, 0, 0), 46);
        due("leaf 0 all", x.dirt(0, 0, 1), 46);
        due("leaf 0 shade", x.dirt(0, 0, 2), 53);
        due("leaf 0 turnings", x.dirt(0, 0, 3), 22);
        // Leaf 1: 15, washed 7; and 18, 25, washed 22; and 3; 5 spilt, 23 through.
        due("leaf 1 own", x.dirt(0, 1, 0), 25);
        due("leaf 1 all", x.dirt(0, 1, 1), 53);
        due("leaf 1 shade", x.dirt(0, 1, 2), 64);
        due("leaf 1 turnings", x.dirt(0, 1, 3), 12);
        // Leaf 2: 3, washed 2; and 3; 26 through.
        due("leaf 2 own", x.dirt(0, 2, 0), 5);
        due("leaf 2 all", x.dirt(0, 2, 1), 31);
        // Leaf 3, bound in later: 33, washed 29; and 3.
        due("leaf 3 own", x.dirt(0, 3, 0), 32);
        due("leaf 3 all", x.dirt(0, 3, 1), 47);
        due("leaf 3 shade", x.dirt(0, 3, 2), 91);
        due("leaf 3 turnings", x.dirt(0, 3, 3), 12);
        way(1, "kind 1 1;");
        due("ways as they are", x.dirt(0, 0, 3), 20);
        law("goes 50;");
        due("the law as it is", x.dirt(0, 0, 0), 27);
        noSuch("leaf", () -> x.dirt(0, 4, 0));
        noSuch("leaf -1", () -> x.dirt(0, -1, 0));
        noSuch("what 4", () -> x.dirt(0, 0, 4));
        noSuch("what -1", () -> x.dirt(0, 0, -1));
        noSuch("book", () -> x.dirt(-1, 0, 0));
        mostDirt();
    }

    static void mostDirt() {
        law("turn 50;goes 90;");
        way(2, "kind 0 99;");
        book(1, "text 0 20;text 0 20;");
        for (int i = 0; i < 8; i++) {
            x.reader(1, 2, 0, 500);
        }
        due("most turnings", x.dirt(1, 0, 3), 396792);
        due("most own", x.dirt(1, 0, 0), 19839600);
        long all = 0;
        for (int leaf = 0; leaf < 40; leaf++) {
            all = 19839600 + all * 90 / 100;
            due("most all " + leaf, x.dirt(1, leaf, 1), all);
        }
        on(14);
        due("readings too dark are refused", x.drawn(1, 1), 40);
        due("status", x.count(6), 40);
    }

    static void drawn() {
        start(14);
        law("slip 2;");
        book(0, "text 0 3 born 0;");
        int seed = 5;
        int[] shade = new int[3];
        for (int i = 0; i < 3; i++) {
            seed = seed * 1103515245 + 12345;
            shade[i] = Math.max(0, (seed >>> 16 & 32767) % 5 - 2);
        }
        due("drawn", x.drawn(0, 5), 0);
        for (int i = 0; i < 3; i++) {
            due("low " + i, x.bounds(0, i, 0), Math.max(0, shade[i] - 2));
            due("high " + i, x.bounds(0, i, 1), shade[i] + 2);
        }
        due("the same again", x.drawn(0, 5), 0);
        due("none of no leaves", x.drawn(1, 5), 0);
        law("slip 0;");
        book(0, "text 0 3 born 9;");
        x.read(0, 1, 8);
        due("one is refused", x.drawn(0, 7), 1);
        due("status", x.count(6), 1);
        due("no slip", x.bounds(0, 2, 0), 9);
        due("no slip", x.bounds(0, 2, 1), 9);
        due("it stays", x.bounds(0, 1, 0), 8);
        noSuch("book", () -> x.drawn(6, 0));
    }

    static void readings() {
        start(15);
        book(0, "text 0 2;");
        due("first", x.read(0, 0, 10), true);
        due("edge", x.read(0, 0, 16), true);
        due("low", x.bounds(0, 0, 0), 13);
        due("high", x.bounds(0, 0, 1), 13);
        due("beside", x.read(0, 0, 17), false);
        due("low stays", x.bounds(0, 0, 0), 13);
        due("least", x.read(0, 1, 0), true);
        due("0 at least", x.bounds(0, 1, 0), 0);
        due("-1", x.read(0, 1, -1), false);
        due("a million", x.read(0, 1, 1000000), false);
        due("status", x.count(6), 3);
        book(1, "text 0 1;");
        due("a million of a leaf unread", x.read(1, 0, 1000000), false);
        due("-1 of a leaf unread", x.read(1, 0, -1), false);
        due("greatest", x.read(1, 0, 999999), true);
        due("greatest bound", x.bounds(1, 0, 1), 1000002);
        law("slip 0;");
        due("a new law leaves bounds", x.bounds(1, 0, 1), 1000002);
        due("a new slip", x.read(1, 0, 1000000 - 4), true);
        due("a new slip: low", x.bounds(1, 0, 0), 999996);
        due("a new slip: high", x.bounds(1, 0, 1), 999996);
        noSuch("leaf 2", () -> x.read(0, 2, 0) ? 1 : 0);
        noSuch("leaf -1", () -> x.read(0, -1, -1) ? 1 : 0);
        noSuch("book", () -> x.read(6, 0, 0) ? 1 : 0);
    }

    static void bounds() {
        start(16);
        law("turn 4;goes 30;slip 3;");
        book(0, "text 0 3 born 20;hair 5;spilt 1 10;");
        x.read(0, 0, 100);
        x.read(0, 1, 70);
        x.read(0, 2, 22);
        // Leaf 0: bounds 97 to 103, bare 77 to 83.
        int[] first = {97, 103, 77, 83, 20, 20, 40, 0};
        // Leaf 1: bounds 67 to 73, bare 42 to 48, less 24 or 23 through and 10 spilt.
        int[] second = {67, 73, 8, 15, 2, 3, 5, 0};
        // Leaf 2: bounds 19 to 25, bare 0 to 5, less 14 or 12 through.
        int[] third = {19, 25, -14, -7, 0, -2, 0, 1};
        for (int what = 0; what < 8; what++) {
            due("leaf 0 " + what, x.bounds(0, 0, what), first[what]);
            due("leaf 1 " + what, x.bounds(0, 1, what), second[what]);
            due("leaf 2 " + what, x.bounds(0, 2, what), third[what]);
        }
        book(1, "text 0 2;");
        noSuch("not read", () -> x.bounds(1, 0, 0));
        x.read(1, 1, 44);
        due("the leaf alone", x.bounds(1, 1, 0), 41);
        noSuch("that ahead wasn't read", () -> x.bounds(1, 1, 2));
        noSuch("that ahead wasn't read", () -> x.bounds(1, 1, 7));
        x.read(1, 0, 44);
        due("strange between two turns", x.bounds(1, 0, 7), 0);
        noSuch("what 8", () -> x.bounds(0, 0, 8));
        noSuch("what -1", () -> x.bounds(0, 0, -1));
        noSuch("leaf 3", () -> x.bounds(0, 3, 0));
        noSuch("book", () -> x.bounds(6, 0, 0));
        law("turn 10;slip 0;");
        book(2, "text 0 1;");
        x.read(2, 0, 45);
        due("no whole turn: the lesser", x.bounds(2, 0, 4), 1);
        due("no whole turn: the greater", x.bounds(2, 0, 5), 0);
        due("no whole turn: strange", x.bounds(2, 0, 7), 1);
    }

    static void lights() {
        start(17);
        exact(0, "text 3 2;text 5 1;text 3 1;", 7, 4, 9, 9);
        due("kind 3", x.light(0, 3), 6);
        due("kind 5", x.light(0, 5), 9);
        noSuch("no such kind in it", () -> x.light(0, 4));
        noSuch("kind 12", () -> x.light(0, 12));
        noSuch("kind -1", () -> x.light(0, -1));
        book(1, "text 3 2;");
        x.read(1, 0, 50);
        noSuch("not known", () -> x.light(1, 3));
        noSuch("no leaves", () -> x.light(2, 3));
        noSuch("book", () -> x.light(6, 3));
        law("turn 1;goes 0;slip 1;");
        book(3, "text 0 3 born 0;");
        x.read(3, 0, 0);
        x.read(3, 1, 1);
        x.read(3, 2, 3);
        // Midsts 1, 2 and 6: cut down once.
        due("cut down once", x.light(3, 0), 1);
    }

    static void sleepies() {
        start(18);
        exact(0, "text 0 4;text 0 2;", 9, 5, 5, 7, 1, 3);
        due("less", x.sleepy(0, 0), 3);
        due("greater", x.sleepy(0, 1), 3);
        exact(1, "text 0 2;", 3, 1);
        due("chance of one of two", x.sleepy(1, 2), 500000);
        exact(1, "text 0 2;", 1, 3);
        due("chance of none or more", x.sleepy(1, 2), 1000000);
        exact(1, "text 0 3;", 3, 2, 1);
        due("chance of three of three", x.sleepy(1, 2), 166666);
        exact(1, "text 0 1;text 0 1;", 3, 2);
        due("two texts: no pairs", x.sleepy(1, 0), 0);
        due("two texts: chance", x.sleepy(1, 2), 1000000);
        int[] falling = new int[40];
        for (int i = 0; i < 40; i++) {
            falling[i] = 100 - i;
        }
        exact(2, "text 0 20;text 0 20;", falling);
        due("all pairs", x.sleepy(2, 0), 380);
        due("cut down to none", x.sleepy(2, 2), 0);
        noSuch("what 3", () -> x.sleepy(0, 3));
        noSuch("what -1", () -> x.sleepy(0, -1));
        noSuch("not known", () -> x.sleepy(5, 0));
        noSuch("book", () -> x.sleepy(6, 0));
    }

    static void humps() {
        start(19);
        exact(0, "text 9 1;text 1 1;text 4 1;text 0 1;text 2 1;", 10, 11, 50, 12, 51);
        due("one", x.humps(0, 1), 1000L * (5 * (100 + 121 + 2500 + 144 + 2601) - 134 * 134) / 5);
        due("two", x.humps(0, 2), 2000 + 500);
        due("three: 10 | 11 12 | 50 51", x.humps(0, 3), 500 + 500);
        due("four: 10 | 11 | 12 | 50 51", x.humps(0, 4), 500);
        noSuch("0", () -> x.humps(0, 0));
        noSuch("5", () -> x.humps(0, 5));
        noSuch("-1", () -> x.humps(0, -1));
        noSuch("not known", () -> x.humps(1, 1));
        noSuch("book", () -> x.humps(6, 1));
        on(20);
        int[][] want = {{9, 0}, {1, 1}, {0, 2}, {4, 3}, {2, 3}};
        for (int[] w : want) {
            due("four, kind " + w[0], x.hump(0, 4, w[0]), w[1]);
        }
        // 10 | 11 12 and 10 11 | 12 are alike: fewest in the first.
        due("three, kind 9", x.hump(0, 3, 9), 0);
        due("three, kind 1", x.hump(0, 3, 1), 1);
        due("three, kind 2", x.hump(0, 3, 2), 2);
        noSuch("no such kind in it", () -> x.hump(0, 1, 3));
        noSuch("kind 12", () -> x.hump(0, 1, 12));
        noSuch("kind -1", () -> x.hump(0, 1, -1));
        noSuch("groups 5", () -> x.hump(0, 5, 9));
        exact(1, "text 7 1;text 3 1;text 5 1;", 6, 6, 6);
        due("like lights lie by their kinds", x.hump(1, 2, 3), 0);
        due("like lights lie by their kinds", x.hump(1, 2, 5), 1);
        due("like lights lie by their kinds", x.hump(1, 2, 7), 1);
        due("no spread", x.humps(1, 2), 0);
        noSuch("more groups than kinds", () -> x.humps(1, 4));
        exact(2, "text 0 1;text 1 1;text 2 1;", 1, 2, 2);
        due("cut down: (3 x 9 - 25) / 3", x.humps(2, 1), 666);
    }

    static void greatHumps() {
        start(19);
        int[] turns = new int[12];
        for (int kind = 6; kind < 12; kind++) {
            turns[kind] = 999999 - 40;
        }
        exact(0, kindsOfOneLeaf(12), turns);
        due("great ones", x.humps(0, 1), 1000L * (36L * 999959L * 999959L) / 12);
        due("great ones in two", x.humps(0, 2), 0);
    }

    static void fits() {
        start(21);
        way(0, "kind 0 3;");
        way(1, "kind 1 2;");
        exact(0, "text 0 1;text 1 1;", 30, 12);
        due("one", x.fitted(0, 0, NONE), 24);
        on(22);
        due("x", x.years(0), 10);
        due("y of one", x.years(1), 0);
        on(21);
        due("two", x.fitted(0, 0, 1), 0);
        due("x", x.years(0), 10);
        due("y", x.years(1), 6);
        due("both the same: the least x", x.fitted(0, 0, 0), 24);
        due("x", x.years(0), 0);
        due("y", x.years(1), 10);
        due("a way of none", x.fitted(0, 2, NONE), 84);
        due("x", x.years(0), 0);
        exact(1, "text 0 1;", 1000);
        due("60 at most", x.fitted(1, 0, NONE), 2000 - 360);
        due("60", x.years(0), 60);
        exact(1, "text 0 1;", 4);
        due("of like ones the least", x.fitted(1, 0, NONE), 2);
        due("1", x.years(0), 1);
        noSuch("way 6", () -> x.fitted(0, 6, NONE));
        noSuch("way -1", () -> x.fitted(0, -1, NONE));
        noSuch("other 6", () -> x.fitted(0, 0, 6));
        noSuch("other -2", () -> x.fitted(0, 0, -2));
        noSuch("not known", () -> x.fitted(5, 0, NONE));
        noSuch("book", () -> x.fitted(6, 0, NONE));
        on(22);
        due("years stay", x.years(0), 1);
        noSuch("what 2", () -> x.years(2));
        noSuch("what -1", () -> x.years(-1));
        start(22);
        noSuch("there was none", () -> x.years(0));
        noSuch("there was none", () -> x.fitted(0, 0, NONE));
        noSuch("a refused one is none", () -> x.years(0));
    }

    static void whose() {
        start(23);
        exact(0, "text 0 1;text 1 2;", 30, 10, 10);
        due("no way tells a kind", x.whose(0), NONE);
        way(4, "kind 0 3;kind 1 1;");
        due("the only one", x.whose(0), 4);
        way(4, "kind 0 3;");
        due("kind 0 alone", x.whose(0), 4);
        way(4, "kind 0 3;kind 1 1;");
        way(2, "kind 0 1;kind 1 1;");
        due("nearer", x.whose(0), 4);
        way(5, "kind 0 6;kind 1 2;");
        due("of like ones the least", x.whose(0), 4);
        way(4, "kind 0 3;kind 1 1 sleepy 1;");
        // Kind 1: 1 and 0 together by 2 are 0, so 30 by 3 less 3 by 40, and 10 by 3.
        due("what it would make is cut down", x.whose(0), 5);
        way(1, "kind 9 1;");
        due("one that would make nothing differs in nothing", x.whose(0), 1);
        noSuch("not known", () -> x.whose(5));
        noSuch("book", () -> x.whose(6));
    }

    static void orders() {
        start(24);
        law("slip 0;goes 50;turn 1;");
        book(0, "text 0 3;");
        x.read(0, 0, 140);
        x.read(0, 1, 50);
        x.read(0, 2, 65);
        // Leaf 1: 10 less 50. Leaf 2: 25 less 5. As 1 0 2: 10; 100 - 5; 25 - 50; as 1 2 0: 10; 25 - 5; 100 - 12.
        due("want", x.order(0, 0), 40);
        due("leaf", x.order(0, 1), 0);
        due("place", x.order(0, 2), 2);
        due("want then", x.order(0, 3), 0);
        book(1, "text 0 2;");
        x.read(1, 0, 40);
        x.read(1, 1, 40);
        due("no want", x.order(1, 0), 0);
        for (int what = 1; what <= 3; what++) {
            due("no move " + what, x.order(1, what), NONE);
        }
        book(2, "text 0 2;spilt 0 5;spilt 1 5;");
        x.read(2, 0, 42);
        x.read(2, 1, 42);
        due("what is spilt goes with the leaf", x.order(2, 0), 7);
        due("no order is better", x.order(2, 1), NONE);
        book(3, "text 0 1;");
        x.read(3, 0, 40);
        due("one leaf", x.order(3, 1), NONE);
        book(4, "text 0 2 born 0;hair 100;");
        x.read(4, 0, 60);
        x.read(4, 1, 120);
        // Bare 60 and 20: 20 less 30. The other way 60 less 10.
        due("hair goes with the leaf", x.order(4, 0), 10);
        due("of like ones the least leaf", x.order(4, 1), 0);
        due("its place", x.order(4, 2), 1);
        noSuch("what 4", () -> x.order(0, 4));
        noSuch("what -1", () -> x.order(0, -1));
        noSuch("not known", () -> x.order(5, 0));
        noSuch("book", () -> x.order(6, 0));
    }

    static void falls() {
        start(25);
        exact(0, "text 0 4;text 1 2;", 1, 5, 6, 1, 9, 8);
        due("how many", x.falls(0, NONE), 2);
        due("first", x.falls(0, 0), 1);
        due("second", x.falls(0, 1), 4);
        noSuch("2", () -> x.falls(0, 2));
        noSuch("-2", () -> x.falls(0, -2));
        exact(1, "text 0 3;text 1 3;", 1, 1, 5, 6, 1, 1);
        due("over two texts", x.falls(1, NONE), 1);
        due("over two texts", x.falls(1, 0), 2);
        exact(1, "text 0 3;text 1 3;", 1, 1, 5, 6, 1, 5);
        due("both above both texts' others", x.falls(1, NONE), 0);
        exact(1, "text 0 2;", 0, 0);
        due("no others", x.falls(1, NONE), 1);
        exact(1, "text 0 3;", 5, 5, 5);
        due("not above", x.falls(1, NONE), 0);
        exact(1, "text 0 1;", 5);
        due("one leaf", x.falls(1, NONE), 0);
        noSuch("none", () -> x.falls(1, 0));
        noSuch("not known", () -> x.falls(5, NONE));
        noSuch("book", () -> x.falls(6, NONE));
    }

    static void blanks() {
        start(26);
        due("first", x.blank(1, 0), 1);
        due("greatest", x.blank(999, 9999), 2);
        due("0 turnings", x.blank(0, 5), NONE);
        due("1000 turnings", x.blank(1000, 5), NONE);
        due("shade -1", x.blank(5, -1), NONE);
        due("shade 10000", x.blank(5, 10000), NONE);
        for (int i = 3; i <= 20; i++) {
            due("trial " + i, x.blank(1, 1), i);
        }
        due("a 21st", x.blank(1, 1), NONE);
        due("status", x.count(8), 5);
        on(27);
        due("clear", x.clear(), 20);
        due("none", x.count(4), 0);
        due("clear of none", x.clear(), 0);
        on(28);
        due("no trials", x.turn(0), NONE);
        due("no trials", x.turn(1), NONE);
        x.blank(7, 20);
        due("least: 17 by 7, cut down", x.turn(0), 2428);
        due("greatest: 23 by 7, cut up", x.turn(1), 3286);
        x.blank(1, 1);
        due("least stays", x.turn(0), 2428);
        due("greatest stays", x.turn(1), 3286);
        law("slip 0;");
        due("slip as it is", x.turn(0), NONE);
        x.clear();
        x.blank(3, 1);
        x.blank(6, 2);
        due("one turn alone", x.turn(0), 333);
        due("one turn alone", x.turn(1), 334);
        law("slip 50;");
        due("0 at least", x.turn(0), 0);
        due("greatest: 52 by 6", x.turn(1), 8667);
        law("slip 1;");
        x.clear();
        x.blank(1, 3);
        x.blank(1, 5);
        due("just possible", x.turn(0), 4000);
        due("just possible", x.turn(1), 4000);
        noSuch("what 2", () -> x.turn(2));
        noSuch("what -1", () -> x.turn(-1));
    }

    static void towns() {
        start(29);
        exact(0, "text 0 1;text 1 1;text 2 1;", 1, 2, 3);
        exact(1, "text 0 1;text 1 1;text 2 1;", 5, 6, 4);
        exact(2, "text 2 1;text 1 1;text 0 1;", 1, 2, 3);
        exact(4, "text 9 1;", 8);
        book(5, "text 0 2;");
        x.read(5, 0, 90);
        due("together", x.town(0), 1 + 5 + 3);
        due("one", x.town(9), 8);
        due("none", x.town(10), 0);
        noSuch("kind 12", () -> x.town(12));
        noSuch("kind -1", () -> x.town(-1));
        on(30);
        due("itself", x.alike(0, 0), 3);
        due("one pair the same way", x.alike(0, 1), -1);
        due("the other way round", x.alike(0, 2), -3);
        due("no pairs", x.alike(0, 4), 0);
        exact(3, "text 0 1;text 1 1;text 2 1;", 5, 5, 6);
        due("like lights lie no way", x.alike(0, 3), 2);
        due("like lights lie no way in both", x.alike(3, 3), 2);
        noSuch("not known", () -> x.alike(0, 5));
        noSuch("not known", () -> x.alike(5, 0));
        noSuch("book", () -> x.alike(0, 6));
        on(31);
        due("most alike", x.nearest(0), 3);
        due("of like ones the least", x.nearest(4), 0);
        due("below nothing too", x.nearest(2), 1);
        noSuch("not known", () -> x.nearest(5));
        noSuch("book", () -> x.nearest(6));
        start(31);
        exact(3, "text 0 1;text 1 1;", 1, 2);
        due("no other one", x.nearest(3), NONE);
        exact(4, "text 0 1;text 1 1;", 2, 1);
        due("the other way, but the only one", x.nearest(3), 4);
    }

    static void sures() {
        start(32);
        law("slip 2;goes 0;turn 1;");
        book(0, "text 0 2;text 1 1;text 2 1;");
        x.read(0, 0, 60);
        x.read(0, 1, 71);
        x.read(0, 2, 60);
        x.read(0, 3, 61);
        // Kind 0: 18 and 29 by 2, 22 and 33 by 2; kind 1: 18 to 22; kind 2: 19 to 23.
        due("23.5 above 22", x.sure(0, 0, 1), 1);
        due("the second", x.sure(0, 1, 0), -1);
        due("23.5 above 23 exactly", x.sure(0, 0, 2), 1);
        due("neither", x.sure(0, 1, 2), 0);
        due("itself", x.sure(0, 0, 0), 0);
        noSuch("kind 3", () -> x.sure(0, 3, 0));
        noSuch("other 3", () -> x.sure(0, 0, 3));
        noSuch("kind 12", () -> x.sure(0, 12, 0));
        noSuch("other -1", () -> x.sure(0, 0, -1));
        noSuch("not known", () -> x.sure(1, 0, 0));
        noSuch("book", () -> x.sure(6, 0, 0));
        law("slip 0;goes 0;turn 10;");
        book(1, "text 0 1;text 1 1;");
        x.read(1, 0, 45);
        x.read(1, 1, 40);
        due("strange: 1 to 0 counts as 0", x.bounds(1, 0, 7), 1);
        due("strange: neither", x.sure(1, 0, 1), 0);
    }

    static void befores() {
        start(33);
        law("slip 1;goes 50;");
        book(0, "text 0 3 born 0;");
        x.read(0, 1, 8);
        noSuch("that ahead wasn't read", () -> x.before(0, 1, 10, 0));
        noSuch("that ahead wasn't read comes first", () -> x.before(0, 1, 100, 0));
        noSuch("it wasn't read", () -> x.before(0, 0, 10, 0));
        x.read(0, 0, 4);
        // Leaf 0: 3 to 5. By 30 of a hundred: 10 by 30 is 3, 19 by 30 is 5.7.
        due("least", x.before(0, 0, 70, 0), 10);
        due("greatest", x.before(0, 0, 70, 1), 19);
        due("99: least", x.before(0, 0, 99, 0), 300);
        due("99: greatest", x.before(0, 0, 99, 1), 599);
        due("0: least", x.before(0, 0, 0, 0), 3);
        due("0: greatest", x.before(0, 0, 0, 1), 5);
        x.read(0, 2, 0);
        // Leaf 2: 0 to 1, less 4 or 3.
        due("none is possible", x.before(0, 2, 10, 0), NONE);
        due("none is possible", x.before(0, 2, 10, 1), NONE);
        book(1, "text 0 2 born 0;");
        x.read(1, 0, 4);
        x.read(1, 1, 2);
        // Leaf 1: 1 - 2 to 3 - 1.
        due("0 at least", x.before(1, 1, 50, 0), 0);
        due("greatest", x.before(1, 1, 50, 1), 5);
        illegal("off 100", () -> x.before(0, 0, 100, 0));
        illegal("off -1", () -> x.before(0, 0, -1, 0));
        noSuch("what comes first", () -> x.before(0, 0, 100, 2));
        noSuch("what -1", () -> x.before(0, 0, 0, -1));
        noSuch("leaf", () -> x.before(0, 3, 0, 0));
        noSuch("book", () -> x.before(6, 0, 0, 0));
        book(2, "text 0 1;");
        x.read(2, 0, 999999);
        due("great ones", x.before(2, 0, 99, 1), 99996099);
    }

    static void tolds() {
        start(34);
        due("no leaves", x.told(0, 0, 100, 1), 0);
        book(0, "text 0 1;");
        due("no way tells a kind", x.told(0, 0, 3, 1), 0);
        way(3, "kind 0 9;");
        due("one leaf", x.told(0, 3, 3, 1), 3);
        way(3, "");
        way(0, "kind 0 9;kind 1 1;");
        way(1, "kind 0 1;kind 1 9;");
        book(0, "text 0 4;text 1 4;");
        x.reader(0, 1, 0, 99);
        due("the reader's", x.told(0, 1, 100, 3), 100);
        due("the other's", x.told(0, 0, 100, 3), 0);
        due("the book stays unread", x.next(0), 0);
        x.read(0, 0, 999999);
        due("its readings count for nothing", x.told(0, 1, 7, 3), 7);
        due("no status", x.count(6), 0);
        noSuch("way comes first", () -> x.told(0, 6, 0, 0));
        noSuch("way -1", () -> x.told(0, -1, 1, 0));
        noSuch("book comes first", () -> x.told(6, 0, 0, 0));
        illegal("0 times", () -> x.told(0, 0, 0, 0));
        illegal("101 times", () -> x.told(0, 0, 101, 0));
        illegal("0 times of no leaves", () -> x.told(1, 0, 0, 0));
        law("turn 50;");
        way(2, "kind 0 99;kind 1 99;");
        for (int i = 0; i < 7; i++) {
            x.reader(0, 2, 0, 500);
        }
        due("a reading is refused", x.told(0, 2, 5, 3), 0);
        due("still no status", x.count(6), 0);
        goesOn();
    }

    /** One leaf of two kinds each and a wide slip: some draws tell one way, some the other; told() of both is all. */
    static void goesOn() {
        start(34);
        law("slip 50;goes 0;");
        way(0, "kind 0 9;kind 1 8;");
        way(1, "kind 0 8;kind 1 9;");
        book(0, "text 0 1;text 1 1;");
        x.reader(0, 0, 0, 19);
        x.reader(0, 1, 0, 19);
        int first = x.told(0, 0, 100, 12);
        int second = x.told(0, 1, 100, 12);
        due("each time it is one of the two", first + second, 100);
        due("not always the first", first < 100 && first > 0, true);
        // The seed goes on: the second time of one call is the first of the seed that two leaves made.
        int seed = 12;
        int sum = 0;
        for (int i = 0; i < 100; i++) {
            sum += x.told(0, 0, 1, seed);
            seed = (seed * 1103515245 + 12345) * 1103515245 + 12345;
        }
        due("one seed that goes on", sum, first);
    }

    static void nexts() {
        start(35);
        due("no leaves", x.next(0), NONE);
        law("goes 0;turn 1;slip 3;");
        book(0, "text 0 3;");
        due("the first", x.next(0), 0);
        x.read(0, 0, 60);
        due("the second", x.next(0), 1);
        x.read(0, 2, 60);
        due("still the second", x.next(0), 1);
        x.read(0, 1, 60);
        due("of like ones the least", x.next(0), 0);
        x.read(0, 0, 62);
        due("farthest apart", x.next(0), 1);
        law("goes 0;turn 10;slip 0;");
        book(1, "text 0 4;");
        x.read(1, 0, 60);
        x.read(1, 1, 45);
        x.read(1, 2, 40);
        x.read(1, 3, 45);
        due("strange ones ahead of all", x.next(1), 1);
        noSuch("book", () -> x.next(6));
        noSuch("book -1", () -> x.next(-1));
    }

    static void images() {
        start(36);
        due("there is none", x.restore(), false);
        book(0, "text 0 2;");
        book(1, "text 0 1;");
        book(2, "text 0 1;");
        x.read(0, 0, 50);
        x.read(1, 0, 50);
        x.read(2, 0, 50);
        x.read(0, 0, -1);
        x.blank(1, 1);
        x.image();
        x.read(0, 0, 52);
        x.read(0, 1, 52);
        x.read(0, 0, -1);
        x.reader(0, 0, 1, 0);
        x.reader(0, 0, 0, 0);
        x.blank(0, 0);
        x.blank(1, 2);
        law("slip 1;");
        book(1, "text 5 1;");
        x.read(1, 0, 60);
        due("a text with a fault", book(2, "?"), 1);
        on(37);
        due("restore", x.restore(), true);
        due("bounds", x.bounds(0, 0, 0), 47);
        due("bounds", x.bounds(0, 0, 1), 53);
        noSuch("not read then", () -> x.bounds(0, 1, 0));
        int[] status = {0, 1, 0, 0};
        for (int i = 0; i < 4; i++) {
            due("status " + i, x.count(5 + i), status[i]);
        }
        noSuch("told anew since: no readings", () -> x.bounds(1, 0, 0));
        due("told anew since: the book stays", x.about(1, 6), 32);
        due("a fault tells nothing anew", x.bounds(2, 0, 0), 47);
        due("readers stay", x.about(0, 2), 1);
        due("trials stay", x.count(4), 2);
        due("the law stays", x.count(2), 1);
        x.read(1, 0, 61);
        due("once more", x.restore(), true);
        noSuch("told anew since, still", () -> x.bounds(1, 0, 0));
        x.read(1, 0, 62);
        x.image();
        x.read(1, 0, 63);
        due("in place of another one", x.restore(), true);
        due("the newer image", x.bounds(1, 0, 1), 63);
        due("the newer image", x.bounds(1, 0, 0), 61);
    }

    public static void main(String[] args) {
        newObject();
        feed();
        bookTexts();
        bookFaults();
        laws();
        ways();
        faults();
        counts();
        abouts();
        leaves();
        turnings();
        readers();
        dirt();
        drawn();
        readings();
        bounds();
        lights();
        sleepies();
        humps();
        greatHumps();
        fits();
        whose();
        orders();
        falls();
        blanks();
        towns();
        sures();
        befores();
        tolds();
        nexts();
        images();
        finish("all promises answer as due");
    }
}
