import java.util.function.IntToLongFunction;
import java.util.function.LongSupplier;

/** The tape and its three languages: part 1 of the terms, and promises 1 to 10, sentence by sentence. */
public final class ThumbBookEdgesTexts extends Desk {
    static final String WHOLE_BOOK = "text 1 2 born 3 later 4;hair 5;spilt 0 6;washed 7 8;";
    static final String WHOLE_LAW = "turn 1;goes 2;slip 3;";
    static final String WHOLE_WAY = "kind 1 2 sleepy 3;kind 4 5;";

    // ---- Terms: books and texts

    @Says("BOOKS 0 to 5 (each of no LEAVES at first)")
    static void sixBooks() {
        for (int b = 0; b <= 5; b++) {
            int at = b;
            due("leaves of book " + b, x.about(b, 0), 0);
            noSuch("leaf 0 of book " + b, () -> x.leaf(at, 0, 0));
        }
        for (int b : new int[] {-1, 6, LEAST_INT, GREATEST_INT}) {
            noSuch("book " + b, () -> x.about(b, 0));
        }
        for (int b = 0; b <= 5; b++) {
            due("book " + b + " is told", book(b, "text " + b + " " + (b + 1) + ";"), 0);
        }
        for (int b = 0; b <= 5; b++) {
            due("book " + b + " has its own leaves", x.about(b, 0), b + 1);
            due("book " + b + " has its own kind", x.leaf(b, b, 0), b);
        }
    }

    @Says("each of at most 40 LEAVES, 0 on")
    static void fortyLeaves() {
        due("40", book(0, "text 0 20;text 0 20;"), 0);
        due("leaves", x.about(0, 0), 40);
        due("the first", x.leaf(0, 0, 2), 0);
        due("the last", x.leaf(0, 39, 2), 19);
        noSuch("leaf 40", () -> x.leaf(0, 40, 0));
        noSuch("leaf -1", () -> x.leaf(0, -1, 0));
        bookFault("text 0 20;text 0 20;text 0 1;", 2, 27);
    }

    @Says("laid in TEXTS one behind the other, each of a KIND (0 to 11)")
    static void textsBehindOneAnother() {
        due("told", book(0, "text 11 2;text 0 1;"), 0);
        int[][] want = {{11, 0, 0}, {11, 0, 1}, {0, 1, 0}};
        for (int leaf = 0; leaf < 3; leaf++) {
            for (int what = 0; what < 3; what++) {
                due("leaf " + leaf + " " + what, x.leaf(0, leaf, what), want[leaf][what]);
            }
        }
        bookFault("text 12 1;", 2, 5);
        due("forty texts", book(0, "text 0 1;".repeat(40)), 0);
        due("how many", x.about(0, 1), 40);
        due("the last leaf's text", x.leaf(0, 39, 1), 39);
        due("the last leaf's place", x.leaf(0, 39, 2), 0);
    }

    @Says("TEXTS (of this language) of at most 500 bytes")
    static void fiveHundredBytes() {
        due("500", book(0, blanks(491) + "text 0 1;"), 0);
        due("its last byte counts", x.about(0, 0), 1);
        bookFault(blanks(492) + "text 0 1", 1, 500);
        tape(blanks(500));
        due("no more", x.feed(0, 0, 0, 0, 0), NONE);
        illegal("501", () -> x.book(0, 501));
        due("500 of blanks", x.book(0, 500), 0);
    }

    // ---- Terms: tokens

    @Says("words (a .. z, the longest row)")
    static void words() {
        bookFault("hair`5;", 1, 4);
        bookFault("hair{5;", 1, 4);
        bookFault("hairA5;", 1, 4);
        bookFault("hairZ5;", 1, 4);
        bookFault("haira5;", 1, 0);
        bookFault("hairz5;", 1, 0);
        bookFault("hairhair 5;", 1, 0);
        bookFault("hai r 5;", 1, 0);
        bookFault("hai 5;", 1, 0);
        due("a row ends where digits begin", book(0, "text0 1born2later3;hair4;"), 0);
        due("born", x.leaf(0, 0, 3), 2);
        due("later", x.leaf(0, 0, 4), 3);
        due("hair", x.about(0, 3), 4);
    }

    @Says("NUMBERS (1 to 4 digits)")
    static void digits() {
        due("1 digit", book(0, "hair 9;"), 0);
        due("9", x.about(0, 3), 9);
        due("4 digits", book(0, "hair 0010;"), 0);
        due("0010", x.about(0, 3), 10);
        due("4 digits of nothing", book(0, "hair 0000;"), 0);
        due("0000", x.about(0, 3), 0);
        bookFault("hair 00010;", 2, 5);
        bookFault("hair 5/;", 1, 6);
        bookFault("hair 5:;", 1, 6);
        bookFault("hair 1 0;", 1, 7);
        bookFault("hair -1;", 1, 5);
        bookFault("hair +1;", 1, 5);
    }

    @Says("the sign ;")
    static void sign() {
        due("at once behind", book(0, "hair 5;"), 0);
        due("behind blanks", book(0, "hair 5 \n;"), 0);
        bookFault("hair 5:", 1, 6);
        bookFault("hair 5<", 1, 6);
        bookFault("hair 5;;", 1, 7);
        bookFault(";", 1, 0);
        lawFault(";", 1, 0);
        lawFault("turn 1;;", 1, 7);
        wayFault(";", 1, 0);
        wayFault("kind 1 1;;", 1, 9);
        bookFault("hair 5 hair 6;", 1, 7);
    }

    @Says("blanks (32, 10) between them, which count for nothing")
    static void everyByteBetween() {
        for (int sign = 0; sign <= 255; sign++) {
            if (sign % 100 == 0) {
                fresh();
            }
            String text = "hair" + (char) sign + "5;";
            boolean blank = sign == 32 || sign == 10;
            boolean digit = sign >= '0' && sign <= '9';
            boolean letter = sign >= 'a' && sign <= 'z';
            due("byte " + sign, book(0, text), blank || digit ? 0 : 1);
            due("fault() of byte " + sign, x.fault(), blank || digit ? NONE : letter ? 0 : 4);
        }
        fresh();
        due("ahead, between, behind", book(0, " \n hair \n 5 \n ; \n "), 0);
        due("hair", x.about(0, 3), 5);
        due("blanks alone", book(0, " \n "), 0);
        due("nothing told", x.about(0, 3), 0);
    }

    @Says({"BOOK: LINE*.", "LAW: LINE*.", "WAY (of WAYS 0 to 5; of none at first): LINE*."})
    static void anyNumberOfLines() {
        book(0, WHOLE_BOOK);
        due("a book of no line", book(0, ""), 0);
        for (int what = 0; what <= 6; what++) {
            due("about " + what, x.about(0, what), 0);
        }
        law("turn 9;goes 9;slip 9;");
        due("a law of no line", law(""), 0);
        due("turn", x.count(0), 2);
        due("goes", x.count(1), 20);
        due("slip", x.count(2), 3);
        way(0, WHOLE_WAY);
        due("a way of no line", way(0, ""), 0);
        due("kind 1", x.turnings(0, 1, 0), 0);
        due("71 lines", book(0, "hair 1;".repeat(70) + "hair 2;"), 0);
        due("the last of 71", x.about(0, 3), 2);
    }

    @Says("WAY (of WAYS 0 to 5; of none at first)")
    static void sixWays() {
        for (int w = 0; w <= 5; w++) {
            for (int kind = 0; kind <= 11; kind++) {
                due("way " + w + ", kind " + kind, x.turnings(w, kind, 0), 0);
            }
        }
        for (int w = 0; w <= 5; w++) {
            due("way " + w + " is told", way(w, "kind " + w + " 1" + w + ";"), 0);
        }
        for (int w = 0; w <= 5; w++) {
            due("way " + w + " is its own", x.turnings(w, w, 0), 10 + w);
            due("way " + w + " has no more", x.turnings(w, w + 1, 0), 0);
        }
    }

    // ---- Terms: the numbers of the three languages

    /** The least and the greatest are taken; those beside, and any of five digits, are too much, and it stays. */
    static void numbers(String language, String ahead, int[] range, String behind, LongSupplier got, IntToLongFunction want) {
        for (int value : range) {
            due(ahead + value + behind, write(language, ahead + value + behind), 0);
            due("what " + value + " makes behind '" + ahead + "'", got.getAsLong(), want.applyAsLong(value));
        }
        String padded = String.format("%04d", range[1]);
        due(ahead + padded + behind, write(language, ahead + padded + behind), 0);
        faulty(language, ahead + (range[1] + 1) + behind, 2, ahead.length());
        faulty(language, ahead + "9999" + behind, 2, ahead.length());
        faulty(language, ahead + "0" + padded + behind, 2, ahead.length());
        faulty(language, ahead + "10000" + behind, 2, ahead.length());
        faulty(language, ahead + "99999999999999999999" + behind, 2, ahead.length());
        if (range[0] > 0) {
            faulty(language, ahead + (range[0] - 1) + behind, 2, ahead.length());
        }
        due("it stays behind '" + ahead + "'", got.getAsLong(), want.applyAsLong(range[1]));
    }

    static void numbers(String language, String ahead, int least, int most, String behind, LongSupplier got) {
        numbers(language, ahead, new int[] {least, most}, behind, got, value -> value);
    }

    @Says("'text' KIND LEAVES ['born' SHADE] ['later' YEAR]")
    static void kindOfText() {
        numbers("book", "text ", 0, 11, " 1;", () -> x.leaf(0, 0, 0));
        due("neither", book(0, "text 1 1;"), 0);
        due("born alone", book(0, "text 1 1 born 2;"), 0);
        due("later alone", book(0, "text 1 1 later 2;"), 0);
        due("both", book(0, "text 1 1 born 2 later 3;"), 0);
        bookFault("text 1 1 later 3 born 2;", 1, 17);
        bookFault("text 1 1 born 2 born 3;", 1, 16);
        bookFault("text 1 1 later 2 later 3;", 1, 17);
        bookFault("text 1;", 1, 6);
        bookFault("text 1 1 1;", 1, 9);
    }

    @Says("the next LEAVES (1 to 20) are a TEXT of that KIND")
    static void leavesOfText() {
        numbers("book", "text 3 ", 1, 20, ";", () -> x.about(0, 0));
        due("place of the last", x.leaf(0, 19, 2), 19);
        due("kind of the last", x.leaf(0, 19, 0), 3);
    }

    @Says("each BORN of that SHADE (0 to 200; 40 without)")
    static void bornOfText() {
        numbers("book", "text 0 2 born ", 0, 200, ";", () -> x.leaf(0, 1, 3));
        book(0, "text 0 1 born 7;text 0 1;text 0 1 later 3;");
        due("told", x.leaf(0, 0, 3), 7);
        due("without", x.leaf(0, 1, 3), 40);
        due("without, but later", x.leaf(0, 2, 3), 40);
    }

    @Says("bound in in that YEAR (0 to 500; 0 without)")
    static void laterOfText() {
        numbers("book", "text 0 2 later ", 0, 500, ";", () -> x.leaf(0, 1, 4));
        book(0, "text 0 1 later 7;text 0 1;text 0 1 born 3;");
        due("told", x.leaf(0, 0, 4), 7);
        due("without", x.leaf(0, 1, 4), 0);
        due("without, but born", x.leaf(0, 2, 4), 0);
    }

    @Says("'hair': LEAVES of odd number are so much darker at birth (0 to 100; 0 without; the last counts)")
    static void hairOfBook() {
        numbers("book", "hair ", 0, 100, ";", () -> x.about(0, 3));
        book(0, "hair 100;text 0 4 born 0;hair 0;text 0 1;hair 9;");
        due("the last counts", x.about(0, 3), 9);
        int[] shades = {0, 9, 0, 9, 40};
        for (int leaf = 0; leaf < 5; leaf++) {
            due("shade of leaf " + leaf, x.dirt(0, leaf, 2), shades[leaf]);
        }
        due("hair is no part of BORN", x.leaf(0, 1, 3), 0);
        book(0, "hair 9;hair 0;text 0 2 born 0;");
        due("the last counts, 0 too", x.dirt(0, 1, 2), 0);
        book(0, "text 0 2 born 0;");
        due("without", x.dirt(0, 1, 2), 0);
    }

    @Says("'spilt': on a LEAF told ahead there lies so much more (1 to 999, once for a LEAF)")
    static void spiltOnLeaf() {
        numbers("book", "text 0 1;spilt 0 ", 1, 999, ";", () -> x.leaf(0, 0, 5));
        due("each once", book(0, "text 0 3;spilt 2 7;spilt 0 8;"), 0);
        int[] spilt = {8, 0, 7};
        for (int leaf = 0; leaf < 3; leaf++) {
            due("on leaf " + leaf, x.leaf(0, leaf, 5), spilt[leaf]);
        }
        bookFault("text 0 3;spilt 2 7;spilt 2 7;", 5, 25);
        bookFault("spilt 0 1;text 0 1;", 3, 6);
        due("a new book has none", book(0, "text 0 3;"), 0);
        due("none on leaf 2", x.leaf(0, 2, 5), 0);
    }

    /** One turning in each of the 501 years, TURN 1: what is left tells the YEAR and how much went off. */
    static long leftOfAYearly() {
        x.reader(0, 0, 0, 500);
        return x.dirt(0, 0, 0);
    }

    @Says("'washed': in that YEAR so many (1 to 99) of a hundred go off (at most 4, each in a later YEAR than the one ahead)")
    static void washedYearAndOff() {
        law("turn 1;");
        way(0, "kind 0 1;");
        int[] years = {0, 500};
        int[] offs = {1, 99};
        numbers("book", "text 0 1;washed ", years, " 50;", ThumbBookEdgesTexts::leftOfAYearly, year -> (year + 1) * 50 / 100 + 500 - year);
        numbers("book", "text 0 1;washed 99 ", offs, ";", ThumbBookEdgesTexts::leftOfAYearly, off -> 100 - off + 401);
        fresh();
        due("4", book(0, "washed 0 1;washed 1 1;washed 499 1;washed 500 1;"), 0);
        due("how many", x.about(0, 5), 4);
        bookFault("washed 0 1;washed 1 1;washed 2 1;washed 3 1;washed 4 1;", 2, 44);
        bookFault("washed 5 1;washed 5 1;", 4, 18);
        bookFault("washed 5 1;washed 4 1;", 4, 18);
        due("it stays", x.about(0, 5), 4);
        due("one year later", book(0, "washed 5 1;washed 6 1;"), 0);
    }

    @Says("a TURNING darkens by TURN (1 to 50; 2 at first and without)")
    static void turnOfLaw() {
        due("at first", x.count(0), 2);
        numbers("law", "turn ", 1, 50, ";", () -> x.count(0));
        law("goes 1;slip 1;");
        due("without", x.count(0), 2);
    }

    @Says("of what is on a LEAF GOES (0 to 90; 20) of a hundred go through to the next")
    static void goesOfLaw() {
        due("at first", x.count(1), 20);
        numbers("law", "goes ", 0, 90, ";", () -> x.count(1));
        law("turn 1;slip 1;");
        due("without", x.count(1), 20);
    }

    @Says("a glass SLIPS by at most SLIP (0 to 50; 3)")
    static void slipOfLaw() {
        due("at first", x.count(2), 3);
        numbers("law", "slip ", 0, 50, ";", () -> x.count(2));
        law("turn 1;goes 1;");
        due("without", x.count(2), 3);
    }

    @Says("so many TURNINGS (1 to 99) in a year of the first LEAF of a TEXT of that KIND")
    static void numbersOfWay() {
        numbers("way", "kind 11 ", 1, 99, ";", () -> x.turnings(0, 11, 0));
        fresh();
        numbers("way", "kind ", new int[] {0, 11}, " 7;", () -> x.turnings(0, 0, 0) - x.turnings(0, 11, 0), kind -> kind == 0 ? 7 : -7);
        due("all twelve kinds", way(0, allKinds()), 0);
        for (int kind = 0; kind <= 11; kind++) {
            due("kind " + kind, x.turnings(0, kind, 0), kind + 1);
        }
    }

    static String allKinds() {
        StringBuilder s = new StringBuilder();
        for (int kind = 0; kind <= 11; kind++) {
            s.append("kind ").append(kind).append(' ').append(kind + 1).append(';');
        }
        return s.toString();
    }

    @Says("of each further one so many (0 to 50; 0 without) of a hundred of these fewer: cut down, 0 at least")
    static void sleepyOfWay() {
        numbers("way", "kind 0 50 sleepy ", new int[] {0, 50}, ";", () -> x.turnings(0, 0, 1), fewer -> (100 - fewer) / 2);
        fresh();
        way(0, "kind 0 99;kind 1 99 sleepy 0;kind 2 99 sleepy 50;kind 3 10 sleepy 5;kind 4 1 sleepy 1;kind 5 99 sleepy 34;");
        due("without", x.turnings(0, 0, 19), 99);
        due("0", x.turnings(0, 1, 19), 99);
        int[] halved = {99, 49, 0, 0};
        int[] twentieths = {10, 9, 9, 8, 8, 7};
        int[] thirds = {99, 65, 31, 0, 0};
        for (int place = 0; place < halved.length; place++) {
            due("50 of a hundred of 99, place " + place, x.turnings(0, 2, place), halved[place]);
        }
        for (int place = 0; place < twentieths.length; place++) {
            due("5 of a hundred of 10, place " + place, x.turnings(0, 3, place), twentieths[place]);
        }
        for (int place = 0; place < thirds.length; place++) {
            due("34 of a hundred of 99, place " + place, x.turnings(0, 5, place), thirds[place]);
        }
        due("place 19 of 50", x.turnings(0, 2, 19), 0);
        due("one of a hundred of 1", x.turnings(0, 4, 1), 0);
    }

    // ---- Terms: faults

    @Says("FAULTS, the first along the text")
    static void firstAlongTheText() {
        bookFault("hair 1;spilt 0 1;text 12 1;?", 3, 13);
        bookFault("text 12 1;spilt 9 1;", 2, 5);
        bookFault("hair 101;?", 2, 5);
        bookFault("?hair 101;", 1, 0);
        bookFault("text 1 1;spilt 0 5;spilt 0 1000;", 5, 25);
        bookFault("washed 2 1;washed 1 100;", 4, 18);
        lawFault("turn 1;turn 51;", 5, 7);
        lawFault("turn 51;turn 1;", 2, 5);
        wayFault("kind 1 1;kind 1 100;", 5, 14);
        wayFault("kind 1 100;kind 1 1;", 2, 7);
    }

    @Says("at a TOKEN's first byte")
    static void atTheFirstByte() {
        bookFault("hair   101 ;", 2, 7);
        bookFault("\n\n\nzzz", 1, 3);
        bookFault("text 1\n\n9999;", 2, 8);
        lawFault("  turn 1;  turn 2;", 5, 11);
        wayFault("kind 1 1;kind   1 1;", 5, 16);
    }

    @Says("of one TOKEN the least")
    static void theLeastOfOneToken() {
        bookFault("washed 7 1;washed 00003 1;", 2, 18);
        bookFault("washed 500 1;washed 501 1;", 2, 20);
        bookFault("spilt 00000 1;", 2, 6);
        bookFault("text 0 1;spilt 0 1;spilt 00000 1;", 2, 25);
        wayFault("kind 1 1;kind 00001 1;", 2, 14);
    }

    static boolean isLetter(char sign) {
        return sign >= 'a' && sign <= 'z';
    }

    /** Where each token of a well-formed text begins, and where it ends. */
    static int endOfToken(String text, int start) {
        int end = start + 1;
        boolean word = isLetter(text.charAt(start));
        boolean number = Character.isDigit(text.charAt(start));
        while (end < text.length() && (word && isLetter(text.charAt(end)) || number && Character.isDigit(text.charAt(end)))) {
            end++;
        }
        return end;
    }

    static void wrongAtEachPlace(String language, String whole) {
        for (int start = 0; start < whole.length(); start = endOfToken(whole, start)) {
            if (whole.charAt(start) == ' ') {
                continue;
            }
            fresh();
            String ahead = whole.substring(0, start);
            String behind = whole.substring(endOfToken(whole, start));
            faulty(language, ahead + "zz" + behind, 1, start);
            faulty(language, ahead + "?" + behind, 1, start);
            faulty(language, ahead + (char) 200 + behind, 1, start);
            if (Character.isDigit(whole.charAt(start))) {
                faulty(language, ahead + ";" + behind, 1, start);
                faulty(language, ahead + "text" + behind, 1, start);
            } else {
                faulty(language, ahead + " 1" + behind, 1, start + 1);
                faulty(language, ahead + " 12345" + behind, 1, start + 1);
            }
        }
    }

    /** Each letter of each word but once put in place of another one. */
    static void misspelt(String language, String whole) {
        for (int at = 0; at < whole.length(); at++) {
            if (at % 60 == 0) {
                fresh();
            }
            int start = at;
            while (start > 0 && isLetter(whole.charAt(start - 1))) {
                start--;
            }
            if (isLetter(whole.charAt(at))) {
                faulty(language, whole.substring(0, at) + "q" + whole.substring(at + 1), 1, start);
            }
        }
    }

    @Says("a TOKEN that can't stand there")
    static void misspeltWords() {
        misspelt("book", WHOLE_BOOK);
        misspelt("law", WHOLE_LAW);
        misspelt("way", WHOLE_WAY);
    }

    @Says("1 a TOKEN that can't stand there, or is none")
    static void cannotStandThere() {
        wrongAtEachPlace("book", WHOLE_BOOK);
        wrongAtEachPlace("law", WHOLE_LAW);
        wrongAtEachPlace("way", WHOLE_WAY);
        fresh();
        for (String word : new String[] {"text", "hair", "spilt", "washed", "born", "later"}) {
            lawFault(word + " 1;", 1, 0);
            wayFault(word + " 1 1;", 1, 0);
        }
        for (String word : new String[] {"turn", "goes", "slip", "kind", "sleepy", "born", "later"}) {
            bookFault(word + " 1;", 1, 0);
        }
        wayFault("turn 1;", 1, 0);
        lawFault("kind 1 1;", 1, 0);
        wayFault("kind 1 1 sleepy 1 sleepy 1;", 1, 18);
        bookFault("hair 1 born 1;", 1, 7);
    }

    /** A text that is cut in a word has a word there that can't stand; else it ends too soon. */
    static void cutAtEachPlace(String language, String whole) {
        for (int n = 1; n < whole.length(); n++) {
            if (n % 60 == 1) {
                fresh();
            }
            char last = whole.charAt(n - 1);
            if (last == ';') {
                faulty(language, whole.substring(0, n), 0, NONE);
                continue;
            }
            int start = n;
            while (isLetter(last) && isLetter(whole.charAt(n)) && start > 0 && isLetter(whole.charAt(start - 1))) {
                start--;
            }
            faulty(language, whole.substring(0, n), 1, start);
        }
    }

    @Says("(the text's length where it ends too soon)")
    static void endsTooSoon() {
        cutAtEachPlace("book", WHOLE_BOOK);
        cutAtEachPlace("law", WHOLE_LAW);
        cutAtEachPlace("way", WHOLE_WAY);
        fresh();
        bookFault("hair 5 \n", 1, 8);
        bookFault("hair\n\n", 1, 6);
        tape("hair 5;");
        due("it ends at n, whatever the tape has behind", x.book(0, 6), 1);
        due("fault() at n", x.fault(), 6);
        tape("hair 55;");
        due("a number is cut at n too", x.book(0, 6), 1);
        due("fault() at n", x.fault(), 6);
    }

    @Says("2 one that can, but is too much: a NUMBER of 5 digits or more, or not as told")
    static void tooMuch() {
        bookFault("hair 12345;", 2, 5);
        bookFault("hair 00000;", 2, 5);
        bookFault("hair 4294967297;", 2, 5);
        bookFault("hair 18446744073709551617;", 2, 5);
        bookFault("12345;", 1, 0);
        bookFault("hair 1 12345;", 1, 7);
        bookFault("hair 99999", 2, 5);
        lawFault("turn 4294967297;", 2, 5);
        wayFault("kind 4294967297 1;", 2, 5);
    }

    @Says("LEAVES above 40 together (at their NUMBER)")
    static void leavesTogether() {
        due("20, 19 and 1", book(0, "text 0 20;text 0 19;text 0 1;"), 0);
        due("leaves", x.about(0, 0), 40);
        bookFault("text 0 20;text 0 20;text 0 1;", 2, 27);
        bookFault("text 0 20;text 0 1;text 0 20;", 2, 26);
        bookFault("text 0 20;text 0 20;text 0 1 zz", 2, 27);
        bookFault("text 0 20;text 0 20;text 0 1", 2, 27);
        bookFault("text 0 20;text 0 20;text 12 1", 2, 25);
        bookFault("text 0 20;text 0 20;text 0 1;spilt 40 1;", 2, 27);
        due("it stays", x.about(0, 1), 3);
    }

    @Says("a fifth 'washed'")
    static void fifthWashed() {
        String four = "washed 0 1;washed 1 1;washed 2 1;washed 3 1;";
        due("four", book(0, four), 0);
        due("how many", x.about(0, 5), 4);
        bookFault(four + "washed 4 1;", 2, 44);
        bookFault(four + "  washed", 2, 46);
        bookFault(four + "washed zz", 2, 44);
        bookFault(four + "washed 3 1;", 2, 44);
        due("others may come behind four", book(0, four + "hair 1;text 0 1;"), 0);
    }

    @Says("3 a LEAF that there isn't")
    static void noSuchLeaf() {
        bookFault("spilt 0 1;", 3, 6);
        bookFault("text 0 2;spilt 2 1;", 3, 15);
        bookFault("text 0 2;spilt 2 0;", 3, 15);
        bookFault("text 0 2;spilt 2 zz", 3, 15);
        bookFault("text 0 2;spilt 2 1;text 0 2;", 3, 15);
        bookFault("text 0 2;spilt 9999 1;", 3, 15);
        bookFault("text 0 20;text 0 20;spilt 40 1;", 3, 26);
        due("the last one", book(0, "text 0 20;text 0 20;spilt 39 1;spilt 0 2;"), 0);
        due("on the last one", x.leaf(0, 39, 5), 1);
        due("on the first one", x.leaf(0, 0, 5), 2);
        due("told behind the second text", book(0, "text 0 2;text 0 2;spilt 2 1;"), 0);
    }

    @Says("4 a YEAR of 'washed' that isn't later")
    static void yearNotLater() {
        bookFault("washed 0 1;washed 0 1;", 4, 18);
        bookFault("washed 500 1;washed 500 1;", 4, 20);
        bookFault("washed 500 1;washed 0 1;", 4, 20);
        bookFault("washed 1 1;washed 3 1;washed 2 1;", 4, 29);
        bookFault("washed 1 1;washed 1 0;", 4, 18);
        bookFault("washed 1 1;hair 1;washed 1 1;", 4, 25);
        due("0 first", book(0, "washed 0 1;washed 1 1;washed 500 1;"), 0);
    }

    @Says("5 what was told already: a LEAF 'spilt' (at it), a LINE of a LAW (at its word), a KIND of a WAY (at it)")
    static void toldAlready() {
        bookFault("text 0 2;spilt 0 1;spilt 1 1;spilt 0 1;", 5, 35);
        bookFault("text 0 2;spilt 0 1;spilt 00 1;", 5, 25);
        due("hair twice is none", book(0, "hair 1;hair 1;"), 0);
        due("a kind twice in a book is none", book(0, "text 1 1;text 1 1;"), 0);
        lawFault("turn 1;turn 1;", 5, 7);
        lawFault("goes 1;goes 1;", 5, 7);
        lawFault("slip 1;slip 1;", 5, 7);
        lawFault("slip 0;turn 1;slip 0;", 5, 14);
        lawFault("turn 1;goes 1;slip 1;turn", 5, 21);
        wayFault("kind 11 1;kind 11 1;", 5, 15);
        wayFault("kind 0 1;kind 1 1;kind 00 1;", 5, 23);
        due("a new law may tell them again", law("turn 1;"), 0);
        due("and again", law("turn 1;"), 0);
        due("a new way may tell it again", way(0, "kind 1 1;"), 0);
        due("and again", way(0, "kind 1 1;"), 0);
    }

    // ---- Promises 1 to 6

    @Says("`NONE = -1`: There is none.")
    static void constants() {
        due("NONE", ThumbBook.NONE, -1);
    }

    @Says("Books of no LEAVES.")
    static void newObject() {
        for (int b = 0; b <= 5; b++) {
            for (int what = 0; what <= 6; what++) {
                due("about " + b + " " + what, x.about(b, what), 0);
            }
            due("next of book " + b, x.next(b), NONE);
            due("gone of book " + b, x.gone(b), NONE);
        }
        due("fault", x.fault(), NONE);
        due("restore", x.restore(), false);
        due("clear", x.clear(), 0);
        due("turn", x.turn(1), NONE);
        noSuch("years", () -> x.years(0));
        for (int what = 3; what <= 8; what++) {
            due("count " + what, x.count(what), 0);
        }
    }

    @Says("Twenty bytes come behind the tape, of each number the highest first: how many it has")
    static void twentyBytes() {
        // "hair 5; text 3 2;" and blanks.
        due("first", x.feed(0x68616972, 0x20353B20, 0x74657874, 0x20332032, 0x3B202020), 20);
        due("told", x.book(0, 20), 0);
        due("hair", x.about(0, 3), 5);
        due("leaves", x.about(0, 0), 2);
        due("kind", x.leaf(0, 1, 0), 3);
        due("a first part", x.feed(0x20202020, 0x20202020, 0x20202020, 0x20202020, 0x20686169), 20);
        due("comes behind", x.feed(0x7220373B, 0x20202020, 0x20202020, 0x20202020, 0x20202020), 40);
        due("joined", x.book(0, 40), 0);
        due("hair", x.about(0, 3), 7);
        // The sign of a number is only its first byte's highest bit.
        x.feed(0xE8616972, 0x20353B20, 0x20202020, 0x20202020, 0x20202020);
        due("a byte of 232", x.book(0, 20), 1);
        due("its place", x.fault(), 0);
        x.feed(0x68616972, 0x2035BB20, 0x20202020, 0x20202020, 0x20202020);
        due("a byte of 187", x.book(0, 20), 1);
        due("its place", x.fault(), 6);
    }

    @Says("NONE, and none come, if it would have more than 500")
    static void fullTape() {
        for (int i = 1; i <= 25; i++) {
            due("feed " + i, x.feed(0x20202020, 0x20202020, 0x20202020, 0x20202020, 0x20202020), 20 * i);
        }
        due("a 26th", x.feed(0, 0, 0, 0, 0), NONE);
        due("a 27th", x.feed(-1, -1, -1, -1, -1), NONE);
        due("it has", x.count(3), 500);
        due("none came", x.book(0, 500), 0);
        due("there is room again", x.feed(0, 0, 0, 0, 0), 20);
        due("nothing is counted", x.count(5), 0);
    }

    @Says("The tape's first n bytes (it is empty then) are a BOOK")
    static void firstBytes() {
        tape("text 0 1;text 0 2;");
        due("the first 9", x.book(0, 9), 0);
        due("leaves", x.about(0, 0), 1);
        due("it is empty", x.count(3), 0);
        tape("text 0 1;");
        due("none of them", x.book(0, 0), 0);
        due("no leaves", x.about(0, 0), 0);
        due("it is empty by none too", x.count(3), 0);
        tape("?");
        due("a fault", x.book(0, 20), 1);
        due("it is empty by a fault too", x.count(3), 0);
        due("an empty tape has none", x.book(0, 0), 0);
        x.feed(0x20202020, 0x20202020, 0x20202020, 0x20202020, 0x20202020);
        due("all of them", x.book(0, 20), 0);
        due("it is empty by all too", x.count(3), 0);
    }

    static void toldBook() {
        law("slip 0;goes 0;turn 1;");
        way(0, "kind 1 2;");
        book(0, "text 1 2 born 10 later 4;text 2 1;hair 5;spilt 0 6;washed 7 50;");
        x.reader(0, 0, 7, 8);
        readAll(0, 50, 0, 1, 2);
    }

    @Says("in place of what it was, without READERS and READINGS: 0, or the FAULT (it stays)")
    static void inPlaceOfWhatItWas() {
        toldBook();
        due("a fault at its end", book(0, "text 5 5;hair 9;washed 1 1;?"), 1);
        int[] about = {3, 2, 1, 5, 1, 1, 6};
        for (int what = 0; what <= 6; what++) {
            due("it stays: about " + what, x.about(0, what), about[what]);
        }
        int[] leaf = {1, 0, 0, 10, 4, 6};
        for (int what = 0; what <= 5; what++) {
            due("it stays: leaf " + what, x.leaf(0, 0, what), leaf[what]);
        }
        due("it stays: own dirt", x.dirt(0, 0, 0), 3);
        due("it stays: readings", x.bounds(0, 2, 0), 52);
        due("others stay", x.about(1, 0), 0);
        due("anew", book(0, "text 1 1;"), 0);
        int[] anew = {1, 1, 0, 0, 0, 0, 2};
        for (int what = 0; what <= 6; what++) {
            due("anew: about " + what, x.about(0, what), anew[what]);
        }
        due("anew: nothing spilt", x.leaf(0, 0, 5), 0);
        due("anew: no dirt", x.dirt(0, 0, 3), 0);
        noSuch("anew: no readings", () -> x.bounds(0, 0, 0));
        due("anew: READERS from none on", x.reader(0, 0, 0, 0), 1);
        due("not washed anew", x.dirt(0, 0, 0), 2);
    }

    @Says("IllegalArgumentException (behind that): the tape has not so many, n below 0 (nothing changes).")
    static void tapeHasNotSoMany() {
        illegal("1 of an empty tape", () -> x.book(0, 1));
        toldBook();
        book(1, "zz");
        tape("text 0 1;");
        for (int n : new int[] {21, 500, 501, -1, GREATEST_INT, LEAST_INT}) {
            illegal("book of " + n, () -> x.book(0, n));
            illegal("law of " + n, () -> x.law(n));
            illegal("way of " + n, () -> x.way(0, n));
            noSuch("no such BOOK comes first, n " + n, () -> x.book(6, n));
            noSuch("no such BOOK comes first, n " + n, () -> x.book(-1, n));
            noSuch("no such WAY comes first, n " + n, () -> x.way(6, n));
            noSuch("no such WAY comes first, n " + n, () -> x.way(-1, n));
        }
        noSuch("no such BOOK", () -> x.book(6, 9));
        noSuch("no such WAY", () -> x.way(6, 9));
        due("the tape", x.count(3), 20);
        due("the fault", x.fault(), 0);
        due("status", x.count(5), 1);
        due("leaves", x.about(0, 0), 3);
        due("readers", x.about(0, 2), 1);
        due("readings", x.about(0, 4), 1);
        due("the law", x.count(2), 0);
        due("the way", x.turnings(0, 1, 0), 2);
        due("the bytes are still there", x.book(0, 9), 0);
        due("leaves anew", x.about(0, 0), 1);
    }

    @Says("They are the LAW likewise.")
    static void lawLikewise() {
        tape("turn 3;goes 4;");
        due("the first 7", x.law(7), 0);
        due("turn", x.count(0), 3);
        due("goes without", x.count(1), 20);
        due("the tape is empty", x.count(3), 0);
        due("a fault", law("turn 9;goes 9;slip 51;"), 2);
        due("the tape is empty by a fault too", x.count(3), 0);
        due("it stays: turn", x.count(0), 3);
        due("it stays: goes", x.count(1), 20);
        due("it stays: slip", x.count(2), 3);
        due("status", x.count(5), 1);
        due("anew", law("slip 7;"), 0);
        due("in place of what it was", x.count(0), 2);
        due("slip", x.count(2), 7);
    }

    @Says("They are a WAY likewise. NoSuchElementException: no such WAY (as everywhere).")
    static void wayLikewise() {
        tape("kind 0 1;kind 1 2;");
        due("the first 9", x.way(5, 9), 0);
        due("kind 0", x.turnings(5, 0, 0), 1);
        due("kind 1", x.turnings(5, 1, 0), 0);
        due("the tape is empty", x.count(3), 0);
        tape("kind 0 5;kind 1 0;");
        due("a fault", x.way(5, 18), 2);
        due("the tape is empty by a fault too", x.count(3), 0);
        due("it stays", x.turnings(5, 0, 0), 1);
        due("status", x.count(5), 1);
        due("anew", way(5, "kind 2 3 sleepy 50;"), 0);
        due("in place of what it was", x.turnings(5, 0, 0), 0);
        due("kind 2", x.turnings(5, 2, 1), 1);
        due("anew without sleepy", way(5, "kind 2 3;"), 0);
        due("not sleepy", x.turnings(5, 2, 1), 3);
        exact(0, "text 2 1;", 3);
        for (int w : new int[] {-1, 6, LEAST_INT, GREATEST_INT}) {
            noSuch("way " + w, () -> x.way(w, 0));
            noSuch("turnings of " + w, () -> x.turnings(w, 0, 0));
            noSuch("reader by " + w, () -> x.reader(0, w, 0, 0));
            noSuch("fitted by " + w, () -> x.fitted(0, w, 0));
            noSuch("told by " + w, () -> x.told(0, w, 1, 0));
        }
        for (int w : new int[] {-2, 6, LEAST_INT, GREATEST_INT}) {
            noSuch("fitted by two, " + w, () -> x.fitted(0, 0, w));
        }
    }

    @Says("The place of the FAULT of the latest of these three; NONE without.")
    static void placeOfTheFault() {
        due("at first", x.fault(), NONE);
        book(0, " zz");
        due("of a book", x.fault(), 1);
        due("asked again", x.fault(), 1);
        law("  zz");
        due("of a law", x.fault(), 2);
        way(0, "   zz");
        due("of a way", x.fault(), 3);
        illegal("n", () -> x.book(0, 1));
        noSuch("a book", () -> x.book(6, 0));
        due("calls that throw leave it", x.fault(), 3);
        book(0, "");
        due("none of the latest, a book", x.fault(), NONE);
        way(0, "zz");
        law("");
        due("none of the latest, a law", x.fault(), NONE);
        law("zz");
        way(0, "");
        due("none of the latest, a way", x.fault(), NONE);
        law("zz");
        due("place 0", x.fault(), 0);
    }

    // ---- Promises 7 to 10

    @Says("0 TURN, 1 GOES, 2 SLIP, 3 bytes of the tape, 4 trials, 5 to 8 STATUS 0 to 3. NoSuchElementException: another what.")
    static void counts() {
        law("turn 11;goes 12;slip 13;");
        tape("?");
        x.blank(1, 1);
        x.blank(0, 1);
        x.reader(0, 0, 1, 0);
        x.reader(0, 0, 1, 0);
        int[] want = {11, 12, 13, 20, 1, 0, 0, 2, 1};
        for (int what = 0; what <= 8; what++) {
            due("count " + what, x.count(what), want[what]);
        }
        for (int what : new int[] {-1, 9, LEAST_INT, LEAST_INT + 4, LEAST_INT + 5, GREATEST_INT}) {
            noSuch("count " + what, () -> x.count(what));
        }
    }

    @Says("Of a BOOK: 0 LEAVES, 1 TEXTS, 2 READERS, 3 'hair', 4 whether it is KNOWN (1), 5 how many times it was washed, 6 KINDS (bits). NoSuchElementException: also another what.")
    static void abouts() {
        toldBook();
        int[] want = {3, 2, 1, 5, 1, 1, 6};
        for (int what = 0; what <= 6; what++) {
            due("about " + what, x.about(0, what), want[what]);
        }
        for (int what : new int[] {-1, 7, LEAST_INT, GREATEST_INT}) {
            noSuch("about " + what, () -> x.about(0, what));
            noSuch("about " + what + " of no leaves", () -> x.about(5, what));
        }
        book(1, kindsOfOneLeaf(12));
        due("all kinds", x.about(1, 6), 4095);
        book(1, "text 0 1;text 11 1;text 0 1;");
        due("the first and the last kind", x.about(1, 6), 2049);
    }

    @Says("Of a LEAF: 0 KIND, 1 TEXT (0 on), 2 its place in it, 3 BORN, 4 YEAR, 5 what is spilt. NoSuchElementException: no such LEAF (as everywhere), what.")
    static void leaves() {
        toldBook();
        int[] want = {1, 0, 0, 10, 4, 6};
        int[] last = {2, 1, 0, 40, 0, 0};
        for (int what = 0; what <= 5; what++) {
            due("leaf 0 " + what, x.leaf(0, 0, what), want[what]);
            due("leaf 2 " + what, x.leaf(0, 2, what), last[what]);
        }
        for (int what : new int[] {-1, 6, LEAST_INT, GREATEST_INT}) {
            noSuch("what " + what, () -> x.leaf(0, 0, what));
        }
        for (int leaf : new int[] {-1, 3, 39, 40, LEAST_INT, GREATEST_INT}) {
            noSuch("leaf " + leaf, () -> x.leaf(0, leaf, 0));
            noSuch("dirt of leaf " + leaf, () -> x.dirt(0, leaf, 0));
            noSuch("read leaf " + leaf, () -> x.read(0, leaf, 1) ? 1 : 0);
            noSuch("bounds of leaf " + leaf, () -> x.bounds(0, leaf, 0));
            noSuch("before of leaf " + leaf, () -> x.before(0, leaf, 0, 0));
        }
        book(0, "text 0 1;");
        noSuch("a leaf that the new book has not", () -> x.leaf(0, 1, 0));
    }

    @Says("TURNINGS in a year by a WAY of a LEAF of a KIND (0 to 11) at a place of its TEXT (0 to 19). NoSuchElementException: also no such KIND, place.")
    static void turnings() {
        way(5, "kind 0 99 sleepy 1;kind 11 98 sleepy 1;");
        due("kind 0, place 0", x.turnings(5, 0, 0), 99);
        due("kind 0, place 19", x.turnings(5, 0, 19), 80);
        due("kind 11, place 0", x.turnings(5, 11, 0), 98);
        due("kind 11, place 19", x.turnings(5, 11, 19), 79);
        for (int kind : new int[] {-1, 12, LEAST_INT, GREATEST_INT}) {
            noSuch("kind " + kind, () -> x.turnings(5, kind, 0));
        }
        for (int place : new int[] {-1, 20, LEAST_INT, GREATEST_INT}) {
            noSuch("place " + place, () -> x.turnings(5, 0, place));
            noSuch("place " + place + " of a kind that isn't told", () -> x.turnings(5, 1, place));
        }
    }

    public static void main(String[] args) {
        runAll(ThumbBookEdgesTexts.class);
    }
}
