import java.math.BigInteger;
import java.util.ArrayList;
import java.util.Arrays;
import java.util.Collections;
import java.util.List;
import java.util.NoSuchElementException;
import java.util.Random;
import java.util.TreeMap;
import java.util.TreeSet;
import java.util.function.LongSupplier;
import java.util.regex.Matcher;
import java.util.regex.Pattern;

/**
 * Random runs of calls (of fixed seeds) on ThumbBook and on a slow model that follows the document word by word:
 * dirt year by year, orders as lists, parts by all masks, washings by trying every value.
 */
public final class ThumbBookModel {
    static final long NO_SUCH = Long.MIN_VALUE;
    static final long ILLEGAL = Long.MIN_VALUE + 1;

    static final class Fault extends Exception {
        private static final long serialVersionUID = 1L;
        final int code;
        final int place;

        Fault(int code, int place) {
            this.code = code;
            this.place = place;
        }
    }

    record Token(String text, int at) {
        boolean isNumber() {
            return text.matches("[0-9]+");
        }
    }

    record Leaf(int kind, int text, int place, int born, int year) {
    }

    record Reader(int way, int from, int to) {
    }

    static final class MBook {
        List<Leaf> leaves = new ArrayList<>();
        int texts;
        int hair;
        TreeMap<Integer, Integer> spilt = new TreeMap<>();
        TreeMap<Integer, Integer> washed = new TreeMap<>();
        List<Reader> readers = new ArrayList<>();
        TreeMap<Integer, int[]> bounds = new TreeMap<>();

        boolean known() {
            return !leaves.isEmpty() && bounds.size() == leaves.size();
        }

        int birth(int leaf) {
            return leaves.get(leaf).born() + (leaf % 2 == 1 ? hair : 0);
        }

        TreeSet<Integer> kinds() {
            TreeSet<Integer> all = new TreeSet<>();
            leaves.forEach(l -> all.add(l.kind()));
            return all;
        }

        MBook likeIt() {
            MBook b = new MBook();
            b.leaves = leaves;
            b.texts = texts;
            b.hair = hair;
            b.spilt = spilt;
            b.washed = washed;
            b.readers = readers;
            return b;
        }
    }

    static final class Model {
        StringBuilder tape = new StringBuilder();
        MBook[] books = new MBook[6];
        List<TreeMap<Integer, int[]>> ways = new ArrayList<>();
        int turn = 2;
        int goes = 20;
        int slip = 3;
        int faultPlace = -1;
        int[] status = new int[4];
        List<int[]> trials = new ArrayList<>();
        int[] years;
        int[] imageStatus;
        List<TreeMap<Integer, int[]>> image;
        private List<Token> tokens;
        private int at;
        private int length;

        Model() {
            for (int i = 0; i < 6; i++) {
                books[i] = new MBook();
                ways.add(new TreeMap<>());
            }
        }

        // ---- languages

        int feed(int... numbers) {
            if (tape.length() + 20 > 500) {
                return -1;
            }
            for (int n : numbers) {
                for (byte b : BigInteger.valueOf((n & 0xFFFFFFFFL) | 1L << 32).toByteArray()) {
                    tape.append((char) (b & 255));
                }
                tape.deleteCharAt(tape.length() - 5);
            }
            return tape.length();
        }

        void cut(int n) {
            if (n < 0 || n > tape.length()) {
                throw new IllegalArgumentException();
            }
            String text = tape.substring(0, n);
            tape.setLength(0);
            tokens = new ArrayList<>();
            at = 0;
            length = n;
            Matcher m = Pattern.compile("[a-z]+|[0-9]+|[^ \n]", Pattern.DOTALL).matcher(text);
            while (m.find()) {
                tokens.add(new Token(m.group(), m.start()));
            }
        }

        Token peek() {
            return at < tokens.size() ? tokens.get(at) : new Token("", length);
        }

        Token take() {
            Token t = peek();
            at++;
            return t;
        }

        boolean option(String word) {
            boolean is = peek().text().equals(word);
            at += is ? 1 : 0;
            return is;
        }

        int number(int least, int most) throws Fault {
            Token t = take();
            if (!t.isNumber()) {
                throw new Fault(1, t.at());
            }
            if (t.text().length() > 4 || Integer.parseInt(t.text()) < least || Integer.parseInt(t.text()) > most) {
                throw new Fault(2, t.at());
            }
            return Integer.parseInt(t.text());
        }

        int lastAt() {
            return tokens.get(at - 1).at();
        }

        void semicolon() throws Fault {
            Token t = take();
            if (!t.text().equals(";")) {
                throw new Fault(1, t.at());
            }
        }

        long faulty(Fault f) {
            status[0]++;
            faultPlace = f.place;
            return f.code;
        }

        long book(int book, int n) {
            book(book);
            cut(n);
            try {
                MBook b = new MBook();
                while (at < tokens.size()) {
                    line(b);
                    semicolon();
                }
                books[book] = b;
                if (image != null) {
                    image.set(book, new TreeMap<>());
                }
                faultPlace = -1;
                return 0;
            } catch (Fault f) {
                return faulty(f);
            }
        }

        void line(MBook b) throws Fault {
            Token word = take();
            switch (word.text()) {
                case "text" -> {
                    int kind = number(0, 11);
                    int leaves = number(1, 20);
                    if (b.leaves.size() + leaves > 40) {
                        throw new Fault(2, lastAt());
                    }
                    int born = option("born") ? number(0, 200) : 40;
                    int year = option("later") ? number(0, 500) : 0;
                    for (int i = 0; i < leaves; i++) {
                        b.leaves.add(new Leaf(kind, b.texts, i, born, year));
                    }
                    b.texts++;
                }
                case "hair" -> b.hair = number(0, 100);
                case "spilt" -> {
                    int leaf = number(0, 9999);
                    if (leaf >= b.leaves.size()) {
                        throw new Fault(3, lastAt());
                    }
                    if (b.spilt.containsKey(leaf)) {
                        throw new Fault(5, lastAt());
                    }
                    b.spilt.put(leaf, number(1, 999));
                }
                case "washed" -> {
                    if (b.washed.size() == 4) {
                        throw new Fault(2, word.at());
                    }
                    int year = number(0, 500);
                    if (!b.washed.isEmpty() && year <= b.washed.lastKey()) {
                        throw new Fault(4, lastAt());
                    }
                    b.washed.put(year, number(1, 99));
                }
                default -> throw new Fault(1, word.at());
            }
        }

        long law(int n) {
            cut(n);
            try {
                TreeMap<String, Integer> told = new TreeMap<>();
                while (at < tokens.size()) {
                    Token word = take();
                    if (!List.of("turn", "goes", "slip").contains(word.text())) {
                        throw new Fault(1, word.at());
                    }
                    if (told.containsKey(word.text())) {
                        throw new Fault(5, word.at());
                    }
                    boolean isTurn = word.text().equals("turn");
                    told.put(word.text(), number(isTurn ? 1 : 0, word.text().equals("goes") ? 90 : 50));
                    semicolon();
                }
                turn = told.getOrDefault("turn", 2);
                goes = told.getOrDefault("goes", 20);
                slip = told.getOrDefault("slip", 3);
                faultPlace = -1;
                return 0;
            } catch (Fault f) {
                return faulty(f);
            }
        }

        long way(int way, int n) {
            way(way);
            cut(n);
            try {
                TreeMap<Integer, int[]> told = new TreeMap<>();
                while (at < tokens.size()) {
                    Token word = take();
                    if (!word.text().equals("kind")) {
                        throw new Fault(1, word.at());
                    }
                    int kind = number(0, 11);
                    if (told.containsKey(kind)) {
                        throw new Fault(5, lastAt());
                    }
                    int often = number(1, 99);
                    told.put(kind, new int[] {often, option("sleepy") ? number(0, 50) : 0});
                    semicolon();
                }
                ways.set(way, told);
                faultPlace = -1;
                return 0;
            } catch (Fault f) {
                return faulty(f);
            }
        }

        // ---- arguments

        MBook book(int book) {
            need(book >= 0 && book < 6);
            return books[book];
        }

        MBook known(int book) {
            MBook b = book(book);
            need(b.known());
            return b;
        }

        MBook withLeaf(int book, int leaf) {
            MBook b = book(book);
            need(leaf >= 0 && leaf < b.leaves.size());
            return b;
        }

        TreeMap<Integer, int[]> way(int way) {
            need(way >= 0 && way < 6);
            return ways.get(way);
        }

        static void need(boolean is) {
            if (!is) {
                throw new NoSuchElementException();
            }
        }

        // ---- dirt

        int turnings(TreeMap<Integer, int[]> way, int kind, int place) {
            int[] told = way.get(kind);
            if (told == null) {
                return 0;
            }
            int hundredths = told[0] * 100 - told[0] * told[1] * place;
            return hundredths < 0 ? 0 : hundredths / 100;
        }

        int inYear(MBook b, int leaf, int year) {
            Leaf l = b.leaves.get(leaf);
            int sum = 0;
            for (Reader r : b.readers) {
                if (r.from() <= year && year <= r.to() && l.year() <= year) {
                    sum += turnings(ways.get(r.way()), l.kind(), l.place());
                }
            }
            return sum;
        }

        long own(MBook b, int leaf) {
            long own = 0;
            for (int year = 0; year <= 500; year++) {
                own += (long) turn * inYear(b, leaf, year);
                if (b.washed.containsKey(year)) {
                    own = own * (100 - b.washed.get(year)) / 100;
                }
            }
            return own;
        }

        long all(MBook b, int leaf) {
            long through = leaf == 0 ? 0 : all(b, leaf - 1) * goes / 100;
            return own(b, leaf) + b.spilt.getOrDefault(leaf, 0) + through;
        }

        long dirt(int book, int leaf, int what) {
            MBook b = withLeaf(book, leaf);
            need(what >= 0 && what <= 3);
            if (what == 0) {
                return own(b, leaf);
            }
            if (what < 3) {
                return all(b, leaf) + (what == 2 ? b.birth(leaf) : 0);
            }
            long sum = 0;
            for (int year = 0; year <= 500; year++) {
                sum += inYear(b, leaf, year);
            }
            return sum;
        }

        // ---- readings

        boolean reading(MBook b, int leaf, long shade) {
            if (shade < 0 || shade > 999999) {
                return false;
            }
            int[] old = b.bounds.getOrDefault(leaf, new int[] {0, Integer.MAX_VALUE});
            int low = Math.max(old[0], (int) Math.max(0, shade - slip));
            int high = Math.min(old[1], (int) shade + slip);
            if (low > high) {
                return false;
            }
            b.bounds.put(leaf, new int[] {low, high});
            return true;
        }

        int seed;

        int drawInto(MBook b, long[] shades) {
            int refused = 0;
            for (int leaf = 0; leaf < b.leaves.size(); leaf++) {
                seed = seed * 1103515245 + 12345;
                int bits = (seed & 0x7FFF0000) >> 16;
                long shade = shades[leaf] + bits % (slip + slip + 1) - slip;
                refused += reading(b, leaf, shade < 0 ? 0 : shade) ? 0 : 1;
            }
            return refused;
        }

        long[] shades(MBook b) {
            long[] row = new long[b.leaves.size()];
            long all = 0;
            for (int leaf = 0; leaf < row.length; leaf++) {
                all = own(b, leaf) + b.spilt.getOrDefault(leaf, 0) + all * goes / 100;
                row[leaf] = all + b.birth(leaf);
            }
            return row;
        }

        long drawn(int book, int from) {
            MBook b = book(book);
            seed = from;
            int refused = drawInto(b, shades(b));
            status[1] += refused;
            return refused;
        }

        long told(int book, int way, int times, int from) {
            MBook b = book(book);
            way(way);
            if (times < 1 || times > 100) {
                throw new IllegalArgumentException();
            }
            if (b.leaves.isEmpty()) {
                return 0;
            }
            seed = from;
            long[] shades = shades(b);
            int hits = 0;
            for (int i = 0; i < times; i++) {
                MBook like = b.likeIt();
                if (drawInto(like, shades) == 0 && whose(like) == way) {
                    hits++;
                }
            }
            return hits;
        }

        long bare(MBook b, int leaf, int which) {
            return Math.max(0, b.bounds.get(leaf)[which] - b.birth(leaf));
        }

        long[] undone(MBook b, int leaf, int ahead) {
            long low = bare(b, leaf, 0) - b.spilt.getOrDefault(leaf, 0);
            long high = bare(b, leaf, 1) - b.spilt.getOrDefault(leaf, 0);
            if (ahead >= 0) {
                low -= bare(b, ahead, 1) * goes / 100;
                high -= bare(b, ahead, 0) * goes / 100;
            }
            return new long[] {low, high};
        }

        long[] turns(MBook b, int leaf) {
            long[] own = undone(b, leaf, leaf - 1);
            long low = own[0] < 0 ? 0 : own[0];
            long first = low / turn + (low % turn > 0 ? 1 : 0);
            long second = own[1] / turn;
            if (second * turn > own[1]) {
                second--;
            }
            return new long[] {first, second};
        }

        boolean strange(MBook b, int leaf) {
            return turns(b, leaf)[0] > turns(b, leaf)[1];
        }

        long midst(MBook b, int leaf) {
            return strange(b, leaf) ? 0 : turns(b, leaf)[0] + turns(b, leaf)[1];
        }

        long bounds(int book, int leaf, int what) {
            MBook b = withLeaf(book, leaf);
            need(what >= 0 && what <= 7 && b.bounds.containsKey(leaf));
            if (what < 2) {
                return b.bounds.get(leaf)[what];
            }
            need(leaf == 0 || b.bounds.containsKey(leaf - 1));
            return switch (what) {
                case 2, 3 -> undone(b, leaf, leaf - 1)[what - 2];
                case 4, 5 -> turns(b, leaf)[what - 4];
                case 6 -> midst(b, leaf);
                default -> strange(b, leaf) ? 1 : 0;
            };
        }

        List<Integer> leavesOf(MBook b, int kind) {
            List<Integer> found = new ArrayList<>();
            for (int i = 0; i < b.leaves.size(); i++) {
                if (b.leaves.get(i).kind() == kind) {
                    found.add(i);
                }
            }
            return found;
        }

        long light(MBook b, int kind) {
            List<Integer> its = leavesOf(b, kind);
            need(!its.isEmpty());
            return its.stream().mapToLong(i -> midst(b, i)).sum() / (2L * its.size());
        }

        // ---- what a known book says

        long sleepy(int book, int what) {
            MBook b = known(book);
            need(what >= 0 && what <= 2);
            int less = 0;
            int greater = 0;
            for (int j = 0; j < b.leaves.size(); j++) {
                for (int i = 0; i < j; i++) {
                    if (b.leaves.get(i).text() == b.leaves.get(j).text()) {
                        less += midst(b, j) < midst(b, i) ? 1 : 0;
                        greater += midst(b, j) > midst(b, i) ? 1 : 0;
                    }
                }
            }
            return what == 0 ? less : what == 1 ? greater : chance(b, less);
        }

        long chance(MBook b, int pairs) {
            List<Long> by = new ArrayList<>(List.of(1000000L));
            for (Leaf l : b.leaves) {
                int j = l.place() + 1;
                if (j < 2) {
                    continue;
                }
                List<Long> then = new ArrayList<>();
                for (int c = 0; c < by.size() + j - 1; c++) {
                    long sum = 0;
                    for (int fewer = 0; fewer < j; fewer++) {
                        sum += c - fewer >= 0 && c - fewer < by.size() ? by.get(c - fewer) : 0;
                    }
                    then.add(sum / j);
                }
                by = then;
            }
            return by.subList(Math.min(pairs, by.size()), by.size()).stream().mapToLong(Long::longValue).sum();
        }

        List<Integer> sorted(MBook b) {
            List<Integer> kinds = new ArrayList<>(b.kinds());
            kinds.sort((p, q) -> Long.compare(light(b, p), light(b, q)));
            return kinds;
        }

        long spread(List<Long> some) {
            long n = some.size();
            long sum = 0;
            long squares = 0;
            for (long v : some) {
                sum += v;
                squares += v * v;
            }
            return 1000 * (n * squares - sum * sum) / n;
        }

        /** Group sizes, by all masks of ends behind the kinds but the last. */
        List<Integer> parted(MBook b, int groups) {
            List<Integer> kinds = sorted(b);
            need(groups >= 1 && groups <= 4 && groups <= kinds.size());
            List<Integer> best = null;
            long least = 0;
            for (int mask = 0; mask < 1 << kinds.size() - 1; mask++) {
                if (Integer.bitCount(mask) != groups - 1) {
                    continue;
                }
                List<Integer> sizes = new ArrayList<>();
                int size = 0;
                for (int i = 0; i < kinds.size(); i++) {
                    size++;
                    if ((mask >> i & 1) == 1 || i == kinds.size() - 1) {
                        sizes.add(size);
                        size = 0;
                    }
                }
                long sum = spreads(b, kinds, sizes);
                if (best == null || sum < least || sum == least && fewer(sizes, best)) {
                    best = sizes;
                    least = sum;
                }
            }
            return best;
        }

        long spreads(MBook b, List<Integer> kinds, List<Integer> sizes) {
            long sum = 0;
            int from = 0;
            for (int size : sizes) {
                sum += spread(kinds.subList(from, from + size).stream().map(k -> light(b, k)).toList());
                from += size;
            }
            return sum;
        }

        boolean fewer(List<Integer> p, List<Integer> q) {
            for (int i = 0; i < p.size(); i++) {
                if (!p.get(i).equals(q.get(i))) {
                    return p.get(i) < q.get(i);
                }
            }
            return false;
        }

        long humps(int book, int groups) {
            MBook b = known(book);
            return spreads(b, sorted(b), parted(b, groups));
        }

        long hump(int book, int groups, int kind) {
            MBook b = known(book);
            need(b.kinds().contains(kind));
            int at = sorted(b).indexOf(kind);
            int group = 0;
            for (int size : parted(b, groups)) {
                if (at < size) {
                    return group;
                }
                at -= size;
                group++;
            }
            throw new IllegalStateException();
        }

        long fitted(int book, int way, int other) {
            MBook b = known(book);
            way(way);
            if (other != -1) {
                way(other);
            }
            long[] midst = new long[b.leaves.size()];
            Arrays.setAll(midst, i -> midst(b, i));
            long best = Long.MAX_VALUE;
            int[] found = null;
            for (int x = 0; x <= 60; x++) {
                for (int y = 0; y <= (other == -1 ? 0 : 60); y++) {
                    long sum = 0;
                    for (int i = 0; i < midst.length; i++) {
                        Leaf l = b.leaves.get(i);
                        long makes = 2L * x * turnings(ways.get(way), l.kind(), l.place());
                        if (other != -1) {
                            makes += 2L * y * turnings(ways.get(other), l.kind(), l.place());
                        }
                        sum += Math.abs(makes - midst[i]);
                    }
                    if (sum < best) {
                        best = sum;
                        found = new int[] {x, y};
                    }
                }
            }
            years = found;
            return best;
        }

        long whose(MBook b) {
            int best = -1;
            BigInteger least = null;
            for (int w = 0; w < 6; w++) {
                if (ways.get(w).isEmpty()) {
                    continue;
                }
                long lights = 0;
                long makes = 0;
                for (int kind : b.kinds()) {
                    lights += light(b, kind);
                    makes += makes(b, w, kind);
                }
                BigInteger apart = BigInteger.ZERO;
                for (int kind : b.kinds()) {
                    BigInteger p = BigInteger.valueOf(light(b, kind)).multiply(BigInteger.valueOf(makes));
                    BigInteger q = BigInteger.valueOf(makes(b, w, kind)).multiply(BigInteger.valueOf(lights));
                    apart = apart.add(p.subtract(q).abs());
                }
                if (least == null || apart.compareTo(least) < 0) {
                    least = apart;
                    best = w;
                }
            }
            return best;
        }

        long makes(MBook b, int way, int kind) {
            List<Integer> its = leavesOf(b, kind);
            long sum = 0;
            for (int i : its) {
                sum += turnings(ways.get(way), kind, b.leaves.get(i).place());
            }
            return sum / its.size();
        }

        long want(MBook b, List<Integer> lying) {
            long sum = 0;
            for (int i = 0; i < lying.size(); i++) {
                long high = undone(b, lying.get(i), i == 0 ? -1 : lying.get(i - 1))[1];
                sum += high < 0 ? -high : 0;
            }
            return sum;
        }

        long order(int book, int what) {
            MBook b = known(book);
            need(what >= 0 && what <= 3);
            List<Integer> lying = new ArrayList<>();
            for (int i = 0; i < b.leaves.size(); i++) {
                lying.add(i);
            }
            long best = want(b, lying);
            if (what == 0) {
                return best;
            }
            long[] move = {-1, -1, -1};
            for (int leaf = 0; leaf < b.leaves.size(); leaf++) {
                for (int place = 0; place < b.leaves.size(); place++) {
                    List<Integer> then = new ArrayList<>(lying);
                    then.remove(leaf);
                    then.add(place, leaf);
                    long want = want(b, then);
                    if (want < best) {
                        best = want;
                        move = new long[] {leaf, place, want};
                    }
                }
            }
            return move[what - 1];
        }

        long falls(int book, int i) {
            MBook b = known(book);
            List<Integer> found = new ArrayList<>();
            for (int k = 0; k + 1 < b.leaves.size(); k++) {
                boolean opens = true;
                for (int o = 0; o < b.leaves.size(); o++) {
                    int text = b.leaves.get(o).text();
                    boolean of = text == b.leaves.get(k).text() || text == b.leaves.get(k + 1).text();
                    if (of && o != k && o != k + 1) {
                        opens &= turns(b, k)[0] > turns(b, o)[1] && turns(b, k + 1)[0] > turns(b, o)[1];
                    }
                }
                if (opens) {
                    found.add(k);
                }
            }
            if (i == -1) {
                return found.size();
            }
            need(i >= 0 && i < found.size());
            return found.get(i);
        }

        // ---- trials, towns, sayings

        long turn(int what) {
            need(what == 0 || what == 1);
            if (trials.isEmpty()) {
                return -1;
            }
            // Over one great divisor all bounds are whole numbers.
            BigInteger whole = BigInteger.ONE;
            for (int[] t : trials) {
                whole = whole.multiply(BigInteger.valueOf(t[0]));
            }
            List<BigInteger> lows = new ArrayList<>(List.of(BigInteger.ZERO));
            List<BigInteger> highs = new ArrayList<>();
            for (int[] t : trials) {
                BigInteger part = whole.divide(BigInteger.valueOf(t[0]));
                lows.add(part.multiply(BigInteger.valueOf(t[1] - slip)));
                highs.add(part.multiply(BigInteger.valueOf(t[1] + slip)));
            }
            BigInteger low = Collections.max(lows);
            BigInteger high = Collections.min(highs);
            if (low.compareTo(high) > 0) {
                return -1;
            }
            BigInteger thousand = BigInteger.valueOf(1000);
            if (what == 0) {
                return low.multiply(thousand).divide(whole).longValueExact();
            }
            return high.multiply(thousand).add(whole).subtract(BigInteger.ONE).divide(whole).longValueExact();
        }

        long town(int kind) {
            need(kind >= 0 && kind < 12);
            long sum = 0;
            for (MBook b : books) {
                sum += b.known() && b.kinds().contains(kind) ? light(b, kind) : 0;
            }
            return sum;
        }

        long alike(int book, int other) {
            MBook p = known(book);
            MBook q = known(other);
            TreeSet<Integer> both = p.kinds();
            both.retainAll(q.kinds());
            long sum = 0;
            for (int k : both) {
                for (int l : both.headSet(k)) {
                    long first = light(p, k) - light(p, l);
                    long second = light(q, k) - light(q, l);
                    sum += Long.signum(first) * Long.signum(second);
                }
            }
            return sum;
        }

        long nearest(int book) {
            known(book);
            int best = -1;
            for (int i = 5; i >= 0; i--) {
                if (i != book && books[i].known() && (best < 0 || alike(book, i) >= alike(book, best))) {
                    best = i;
                }
            }
            return best;
        }

        long sure(int book, int kind, int other) {
            MBook b = known(book);
            need(b.kinds().contains(kind) && b.kinds().contains(other));
            return oftener(b, kind, other) ? 1 : oftener(b, other, kind) ? -1 : 0;
        }

        boolean oftener(MBook b, int kind, int other) {
            List<Integer> first = leavesOf(b, kind);
            List<Integer> second = leavesOf(b, other);
            long low = first.stream().mapToLong(i -> strange(b, i) ? 0 : turns(b, i)[0]).sum();
            long high = second.stream().mapToLong(i -> strange(b, i) ? 0 : turns(b, i)[1]).sum();
            return low * second.size() > high * first.size();
        }

        long before(int book, int leaf, int off, int what) {
            MBook b = withLeaf(book, leaf);
            need((what == 0 || what == 1) && b.bounds.containsKey(leaf));
            need(leaf == 0 || b.bounds.containsKey(leaf - 1));
            if (off < 0 || off > 99) {
                throw new IllegalArgumentException();
            }
            long[] own = undone(b, leaf, leaf - 1);
            long low = Math.max(0, own[0]);
            // From near where the bounds are on, every value is tried.
            long found = -1;
            long start = Math.max(0, low * 100 / (100 - off) - 200);
            for (long v = start; v * (100 - off) / 100 <= own[1]; v++) {
                if (v * (100 - off) / 100 >= low) {
                    if (what == 0) {
                        return v;
                    }
                    found = v;
                }
            }
            return found;
        }

        long next(int book) {
            MBook b = book(book);
            for (int i = 0; i < b.leaves.size(); i++) {
                if (!b.bounds.containsKey(i)) {
                    return i;
                }
            }
            int best = -1;
            long width = -1;
            for (int i = 0; i < b.leaves.size(); i++) {
                long its = strange(b, i) ? Long.MAX_VALUE : turns(b, i)[1] - turns(b, i)[0];
                if (its > width) {
                    width = its;
                    best = i;
                }
            }
            return best;
        }

        void image() {
            image = new ArrayList<>();
            for (MBook b : books) {
                image.add(new TreeMap<>(b.bounds));
            }
            imageStatus = status.clone();
        }

        boolean restore() {
            if (image == null) {
                return false;
            }
            for (int i = 0; i < 6; i++) {
                books[i].bounds = new TreeMap<>(image.get(i));
            }
            status = imageStatus.clone();
            return true;
        }

        long count(int what) {
            need(what >= 0 && what <= 8);
            int[] told = {turn, goes, slip, tape.length(), trials.size()};
            return what < 5 ? told[what] : status[what - 5];
        }

        long about(int book, int what) {
            MBook b = book(book);
            need(what >= 0 && what <= 6);
            int bits = 0;
            for (int kind : b.kinds()) {
                bits |= 1 << kind;
            }
            int[] told = {b.leaves.size(), b.texts, b.readers.size(), b.hair, b.known() ? 1 : 0, b.washed.size(), bits};
            return told[what];
        }

        long leaf(int book, int leaf, int what) {
            MBook b = withLeaf(book, leaf);
            need(what >= 0 && what <= 5);
            Leaf l = b.leaves.get(leaf);
            int[] told = {l.kind(), l.text(), l.place(), l.born(), l.year(), b.spilt.getOrDefault(leaf, 0)};
            return told[what];
        }

        long reader(int book, int way, int from, int to) {
            MBook b = book(book);
            way(way);
            if (b.readers.size() == 8 || from < 0 || from > 500 || to < 0 || to > 500 || from > to) {
                status[2]++;
                return -1;
            }
            b.readers = new ArrayList<>(b.readers);
            b.readers.add(new Reader(way, from, to));
            return b.readers.size();
        }

        long gone(int book) {
            MBook b = book(book);
            if (b.readers.isEmpty()) {
                return -1;
            }
            b.readers = new ArrayList<>(b.readers.subList(0, b.readers.size() - 1));
            return b.readers.size();
        }

        long read(int book, int leaf, int shade) {
            MBook b = withLeaf(book, leaf);
            if (reading(b, leaf, shade)) {
                return 1;
            }
            status[1]++;
            return 0;
        }

        long blank(int turnings, int shade) {
            if (trials.size() == 20 || turnings < 1 || turnings > 999 || shade < 0 || shade > 9999) {
                status[3]++;
                return -1;
            }
            trials.add(new int[] {turnings, shade});
            return trials.size();
        }

        long clear() {
            int were = trials.size();
            trials.clear();
            return were;
        }

        long years(int what) {
            need(years != null && (what == 0 || what == 1));
            return years[what];
        }

        long turningsAt(int way, int kind, int place) {
            TreeMap<Integer, int[]> w = way(way);
            need(kind >= 0 && kind < 12 && place >= 0 && place < 20);
            return turnings(w, kind, place);
        }
    }

    // ---- the runs

    static Random random;
    static ThumbBook x;
    static Model m;
    static int wrong;
    static int calls;
    static List<String> log;

    static long answer(LongSupplier call) {
        try {
            return call.getAsLong();
        } catch (NoSuchElementException e) {
            return NO_SUCH;
        } catch (IllegalArgumentException e) {
            return ILLEGAL;
        }
    }

    static long same(String call, LongSupplier got, LongSupplier want) {
        calls++;
        long g = answer(got);
        long w = answer(want);
        log.add(call + " = " + g);
        if (g != w) {
            wrong++;
            System.out.println(call + " answered " + g + ", the model " + w);
            if (wrong < 3) {
                log.forEach(l -> System.out.println("    " + l));
            }
        }
        return w;
    }

    static int upTo(int most) {
        return random.nextInt(most + 1);
    }

    /** Mostly within the bounds, now and then a little beside. */
    static int near(int least, int most) {
        if (random.nextInt(25) == 0) {
            int[] odd = {least - 1, most + 1, Integer.MIN_VALUE, Integer.MAX_VALUE, least, most};
            return odd[random.nextInt(odd.length)];
        }
        return least + random.nextInt(most - least + 1);
    }

    static boolean seldom(int of) {
        return random.nextInt(of) == 0;
    }

    static String number(int least, int most) {
        if (seldom(250)) {
            return seldom(2) ? "" + (most + 1) : seldom(2) ? "0" + (10000 + upTo(9)) : "12345";
        }
        String n = "" + (least + upTo(most - least));
        return seldom(20) && n.length() < 4 ? "0" + n : n;
    }

    static String bookText() {
        StringBuilder s = new StringBuilder();
        int texts = seldom(12) ? 0 : 1 + upTo(seldom(3) ? 11 : 4);
        int leaves = 0;
        for (int i = 0; i < texts; i++) {
            int more = 1 + upTo(seldom(4) ? 19 : 40 / texts);
            if (leaves + more > 40 && !seldom(10) || more > 20) {
                continue;
            }
            leaves += more;
            s.append("text ").append(number(0, 11)).append(' ').append(more);
            s.append(seldom(3) ? " born " + number(0, 200) : "").append(seldom(6) ? " later " + number(0, 500) : "");
            s.append(";");
            s.append(seldom(5) ? "hair " + number(0, 100) + ";" : "");
            if (seldom(5)) {
                s.append("spilt ").append(upTo(seldom(10) ? leaves : leaves - 1)).append(' ').append(number(1, 999)).append("; ");
            }
        }
        int year = -1;
        int washings = seldom(2) ? 0 : upTo(seldom(6) ? 5 : 3);
        for (int i = 0; i < washings; i++) {
            year = seldom(20) ? year : year + 1 + upTo(90);
            s.append("washed ").append(Math.max(0, year)).append(' ').append(number(1, 99)).append(";\n");
        }
        return s.toString();
    }

    static String lawText() {
        StringBuilder s = new StringBuilder();
        List<String> lines = new ArrayList<>();
        lines.add("turn " + number(1, seldom(3) ? 50 : 4) + ";");
        lines.add("goes " + number(0, 90) + ";");
        lines.add("slip " + number(0, seldom(3) ? 50 : 4) + ";");
        Collections.shuffle(lines, random);
        for (int i = 0; i < 3; i++) {
            s.append(seldom(3) ? "" : lines.get(seldom(15) ? 0 : i));
        }
        return s.toString();
    }

    static String wayText() {
        StringBuilder s = new StringBuilder();
        for (int kind = 0; kind < 12; kind++) {
            if (!seldom(3)) {
                s.append("kind ").append(seldom(50) ? "1" : "" + kind).append(' ').append(number(1, seldom(3) ? 99 : 9));
                s.append(seldom(2) ? " sleepy " + number(0, 50) : "").append("; ");
            }
        }
        return s.toString();
    }

    static String spoilt(String text) {
        if (!seldom(8) || text.isEmpty()) {
            return text;
        }
        int at = random.nextInt(text.length());
        if (seldom(3)) {
            return text.substring(0, at);
        }
        String odd = " ;9ax\n-\u00e9\u0000;;";
        char sign = odd.charAt(random.nextInt(odd.length()));
        return text.substring(0, at) + sign + text.substring(at + (seldom(2) ? 1 : 0));
    }

    static String tape(String text) {
        String t = text.length() > 500 ? text.substring(0, 500) : text;
        StringBuilder padded = new StringBuilder(t);
        while (padded.length() % 20 != 0) {
            padded.append((char) random.nextInt(256));
        }
        for (int i = 0; i < padded.length(); i += 20) {
            int[] n = new int[5];
            for (int j = 0; j < 20; j++) {
                n[j / 4] = n[j / 4] << 8 | padded.charAt(i + j);
            }
            same("feed", () -> x.feed(n[0], n[1], n[2], n[3], n[4]), () -> m.feed(n));
        }
        return t;
    }

    static void write(int which) {
        String text = tape(spoilt(which == 0 ? bookText() : which == 1 ? lawText() : wayText()));
        int n = seldom(40) ? near(0, 500) : text.length();
        int at = near(0, 5);
        if (which == 0) {
            same("book(" + at + ", " + n + ") " + text, () -> x.book(at, n), () -> m.book(at, n));
        } else if (which == 1) {
            same("law(" + n + ") " + text, () -> x.law(n), () -> m.law(n));
        } else {
            same("way(" + at + ", " + n + ") " + text, () -> x.way(at, n), () -> m.way(at, n));
        }
        same("fault()", () -> x.fault(), () -> m.faultPlace);
    }

    static void readWhole(int book) {
        int most = seldom(2) ? 12 : 150;
        for (int leaf = 0; leaf < m.books[book].leaves.size(); leaf++) {
            int at = leaf;
            int shade = m.books[book].birth(leaf) + upTo(seldom(4) ? 3000 : most);
            same("read(" + book + ", " + at + ", " + shade + ")", () -> x.read(book, at, shade) ? 1 : 0, () -> m.read(book, at, shade));
        }
    }

    /** Mostly a known one, if there is some. */
    static int someBook() {
        int book = near(0, 5);
        for (int i = 0; i < 6 && !seldom(4) && book >= 0 && book < 6 && !m.books[book].known(); i++) {
            book = (book + 1) % 6;
        }
        return book;
    }

    static int someKind(int book) {
        if (book < 0 || book > 5 || m.books[book].leaves.isEmpty() || seldom(4)) {
            return near(0, 11);
        }
        List<Leaf> leaves = m.books[book].leaves;
        return leaves.get(random.nextInt(leaves.size())).kind();
    }

    static void ask() {
        int b = someBook();
        int o = someBook();
        int leaves = b >= 0 && b < 6 ? m.books[b].leaves.size() : 1;
        int leaf = near(0, Math.max(0, leaves - 1));
        int kind = someKind(b);
        int other = seldom(4) ? kind : someKind(b);
        int what = near(0, 7);
        int few = near(0, 3);
        int any = random.nextInt();
        switch (random.nextInt(32)) {
            case 0 -> same("count(" + what + ")", () -> x.count(what), () -> m.count(what));
            case 1 -> same("about(" + b + ", " + what + ")", () -> x.about(b, what), () -> m.about(b, what));
            case 2 -> same("leaf(" + b + ", " + leaf + ", " + what + ")", () -> x.leaf(b, leaf, what), () -> m.leaf(b, leaf, what));
            case 3 -> same("turnings(" + o + ", " + kind + ", " + what + ")", () -> x.turnings(o, kind, what), () -> m.turningsAt(o, kind, what));
            case 4 -> {
                int from = near(0, 500);
                int to = seldom(10) ? near(0, 500) : near(Math.max(0, Math.min(500, from)), 500);
                same("reader(" + b + ", " + o + ", " + from + ", " + to + ")", () -> x.reader(b, o, from, to), () -> m.reader(b, o, from, to));
            }
            case 5 -> same("gone(" + b + ")", () -> x.gone(b), () -> m.gone(b));
            case 6 -> same("dirt(" + b + ", " + leaf + ", " + few + ")", () -> x.dirt(b, leaf, few), () -> m.dirt(b, leaf, few));
            case 7 -> same("drawn(" + b + ", " + any + ")", () -> x.drawn(b, any), () -> m.drawn(b, any));
            case 8 -> {
                int shade = near(0, seldom(3) ? 999999 : 300);
                same("read(" + b + ", " + leaf + ", " + shade + ")", () -> x.read(b, leaf, shade) ? 1 : 0, () -> m.read(b, leaf, shade));
            }
            case 9, 10 -> same("bounds(" + b + ", " + leaf + ", " + what + ")", () -> x.bounds(b, leaf, what), () -> m.bounds(b, leaf, what));
            case 11 -> same("light(" + b + ", " + kind + ")", () -> x.light(b, kind), () -> m.light(m.known(b), kind));
            case 12 -> same("sleepy(" + b + ", " + few + ")", () -> x.sleepy(b, few), () -> m.sleepy(b, few));
            case 13 -> same("humps(" + b + ", " + few + ")", () -> x.humps(b, few), () -> m.humps(b, few));
            case 14 -> {
                int groups = near(1, 4);
                same("hump(" + b + ", " + groups + ", " + kind + ")", () -> x.hump(b, groups, kind), () -> m.hump(b, groups, kind));
            }
            case 15 -> {
                int second = near(-1, 5);
                same("fitted(" + b + ", " + o + ", " + second + ")", () -> x.fitted(b, o, second), () -> m.fitted(b, o, second));
            }
            case 16 -> same("years(" + few + ")", () -> x.years(few), () -> m.years(few));
            case 17 -> same("whose(" + b + ")", () -> x.whose(b), () -> m.whose(m.known(b)));
            case 18 -> same("order(" + b + ", " + few + ")", () -> x.order(b, few), () -> m.order(b, few));
            case 19 -> {
                int i = near(-1, 3);
                same("falls(" + b + ", " + i + ")", () -> x.falls(b, i), () -> m.falls(b, i));
            }
            case 20 -> {
                int turnings = near(1, 999);
                int shade = seldom(6) ? near(0, 9999) : Math.min(9999, Math.max(0, 2 * Math.min(999, Math.max(0, turnings)) + upTo(3)));
                same("blank(" + turnings + ", " + shade + ")", () -> x.blank(turnings, shade), () -> m.blank(turnings, shade));
            }
            case 21 -> {
                if (seldom(3)) {
                    same("clear()", () -> x.clear(), () -> m.clear());
                }
            }
            case 22 -> {
                int end = near(0, 1);
                same("turn(" + end + ")", () -> x.turn(end), () -> m.turn(end));
            }
            case 23 -> same("town(" + kind + ")", () -> x.town(kind), () -> m.town(kind));
            case 24 -> same("alike(" + b + ", " + o + ")", () -> x.alike(b, o), () -> m.alike(b, o));
            case 25 -> same("nearest(" + b + ")", () -> x.nearest(b), () -> m.nearest(b));
            case 26 -> same("sure(" + b + ", " + kind + ", " + other + ")", () -> x.sure(b, kind, other), () -> m.sure(b, kind, other));
            case 27 -> {
                int off = near(0, 99);
                int end = near(0, 1);
                same("before(" + b + ", " + leaf + ", " + off + ", " + end + ")", () -> x.before(b, leaf, off, end), () -> m.before(b, leaf, off, end));
            }
            case 28 -> {
                int times = seldom(20) ? near(1, 100) : near(1, 5);
                same("told(" + b + ", " + o + ", " + times + ", " + any + ")", () -> x.told(b, o, times, any), () -> m.told(b, o, times, any));
            }
            case 29 -> same("next(" + b + ")", () -> x.next(b), () -> m.next(b));
            case 30 -> {
                if (seldom(4)) {
                    log.add("image()");
                    x.image();
                    m.image();
                }
            }
            default -> {
                if (seldom(6)) {
                    same("restore()", () -> x.restore() ? 1 : 0, () -> m.restore() ? 1 : 0);
                }
            }
        }
    }

    static void run(int seed) {
        random = new Random(seed);
        x = new ThumbBook();
        m = new Model();
        log = new ArrayList<>();
        calls = 0;
        write(2);
        write(0);
        if (seed % 3 == 0) {
            write(1);
        }
        while (calls < 480) {
            int which = random.nextInt(60);
            if (which < 3) {
                write(0);
            } else if (which == 3) {
                write(1);
            } else if (which < 6) {
                write(2);
            } else if (which < 9) {
                int book = upTo(5);
                if (m.books[book].bounds.isEmpty() && calls < 430) {
                    readWhole(book);
                } else {
                    int any = random.nextInt();
                    same("drawn(" + book + ", " + any + ")", () -> x.drawn(book, any), () -> m.drawn(book, any));
                }
            } else {
                ask();
            }
        }
    }

    public static void main(String[] args) {
        int runs = args.length > 0 ? Integer.parseInt(args[0]) : 150;
        for (int seed = 0; seed < runs; seed++) {
            run(seed);
        }
        System.out.println(wrong == 0 ? "all runs answer as the model" : wrong + " answers are not the model's");
        if (wrong != 0) {
            System.exit(1);
        }
    }
}
