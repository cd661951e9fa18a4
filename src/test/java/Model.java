import java.math.BigInteger;
import java.util.ArrayList;
import java.util.Arrays;
import java.util.Comparator;
import java.util.HashMap;
import java.util.LinkedHashSet;
import java.util.List;
import java.util.Map;
import java.util.Set;
import java.util.TreeSet;

/**
 * The document once more, told slowly and with the whole library: texts, maps, lists of all SENTENCES.
 * It shares no code with WordRents, so that a slip in one of them shows when they are asked the same things.
 */
final class Model {
    private static final int NONE = -6, UNKNOWN = -1, OUTSIDE = -2, STATE = -3, FULL = -4, NO = -5;
    private static final long LOST = -1000000000000000000L;

    private record Word(char letter, int sort, int meaning, int rhyme, int rent, int holder) {
        Word rented(int v) {
            return new Word(letter, sort, meaning, rhyme, v, holder);
        }

        Word holding(int firm) {
            return new Word(letter, sort, meaning, rhyme, rent, firm);
        }

        Word meaning(int v) {
            return new Word(letter, sort, v, rhyme, rent, holder);
        }
    }

    private record Sight(int firm, int set) { }

    /** Everything but the PAD; copied whole wherever something is only tried. */
    private static final class All {
        Map<Character, Word> words = new HashMap<>();
        int[][] far = new int[5][5];
        int cap = 20, drift = 3, days = 0;
        List<String> list = new ArrayList<>();
        List<Sight> sights = new ArrayList<>();

        All copy() {
            All a = new All();
            a.words.putAll(words);
            for (int i = 0; i < 5; i++) {
                a.far[i] = far[i].clone();
            }
            a.cap = cap;
            a.drift = drift;
            a.days = days;
            a.list.addAll(list);
            a.sights.addAll(sights);
            return a;
        }

        void rents() {
            Map<Character, Word> next = new HashMap<>();
            for (Word w : words.values()) {
                boolean down = words.values().stream().anyMatch(o -> o.letter != w.letter && o.sort == w.sort
                        && o.holder != w.holder && far[o.meaning][w.meaning] <= 1
                        && (o.holder == 4 ? 0 : o.rent) < w.rent);
                int v = w.rent;
                if (w.holder != 4) {
                    if (down) {
                        v = v - 1;
                    } else if (v < cap) {
                        v = v + 1;
                    }
                }
                next.put(w.letter, w.rented(v));
            }
            words = next;
        }

        void day() {
            rents();
            days = days + 1;
            if (days / drift * drift == days) {
                words.replaceAll((c, w) -> w.holder == 4 ? w.meaning(w.meaning == 4 ? 0 : w.meaning + 1) : w);
            }
        }

        List<Integer> allRents() {
            List<Integer> row = new ArrayList<>();
            for (char c = 'a'; c <= 'h'; c++) {
                row.add(words.containsKey(c) ? words.get(c).rent : -1);
            }
            return row;
        }

        /** 0, or why the ACT can not be; if it can, it is done. */
        int act(int firm, char c, char sign) {
            Word w = words.get(c);
            if (w == null) {
                return 1;
            }
            if (sign == '+' ? w.holder != 4 : w.holder != 4 && w.holder != firm) {
                return 2;
            }
            if (sign != '+' && w.holder == 4) {
                return 3;
            }
            if (sign == '^' && w.rent == 99 || sign == 'v' && w.rent == 0) {
                return 4;
            }
            switch (sign) {
                case '+' -> words.put(c, w.holding(firm));
                case '-' -> words.put(c, w.holding(4));
                case '^' -> words.put(c, w.rented(w.rent + 1));
                default -> words.put(c, w.rented(w.rent - 1));
            }
            return 0;
        }

        List<String> sentences(int length) {
            List<String> texts = List.of("");
            for (int i = 0; i < length; i++) {
                List<String> longer = new ArrayList<>();
                for (String t : texts) {
                    for (char c = 'a'; c <= 'h'; c++) {
                        if (words.containsKey(c) && words.get(c).sort == new int[] {0, 1, 0, 2, 0}[i]) {
                            longer.add(t + c);
                        }
                    }
                }
                texts = longer;
            }
            return texts;
        }

        List<String> sentences() {
            List<String> all = new ArrayList<>(sentences(3));
            all.addAll(sentences(5));
            return all;
        }

        boolean isSentence(String text) {
            return sentences().contains(text);
        }

        Set<Character> costing(String text, int speaker) {
            Set<Character> found = new TreeSet<>();
            for (char c : text.toCharArray()) {
                Word w = words.get(c);
                if (w.holder != 4 && w.holder != speaker && w.rent != 0) {
                    found.add(c);
                }
            }
            return found;
        }

        /** What each FIRM gets. */
        int[] paid(String text, int speaker) {
            int[] purse = new int[4];
            List<Word> dear = new ArrayList<>();
            for (char c : costing(text, speaker)) {
                dear.add(words.get(c));
            }
            dear.sort(Comparator.comparingInt((Word w) -> -w.rent).thenComparingInt(w -> w.letter));
            Set<Integer> rhymes = new LinkedHashSet<>();
            for (Word w : dear) {
                purse[w.holder] += rhymes.add(w.rhyme) ? w.rent : w.rent / 2;
            }
            return purse;
        }

        int price(String text, int speaker) {
            return Arrays.stream(paid(text, speaker)).sum();
        }
    }

    private All now = new All();
    private final All[] images = new All[2];
    private String pad = "";

    Model() {
        for (int i = 0; i < 5; i++) {
            for (int j = 0; j < 5; j++) {
                now.far[i][j] = i == j ? 0 : 1;
            }
        }
    }

    private static boolean out(int v, int least, int most) {
        return v < least || v > most;
    }

    private boolean unknown(int word) {
        return out(word, 0, 7) || !now.words.containsKey((char) ('a' + word));
    }

    private static int bits(Iterable<Character> letters) {
        int set = 0;
        for (char c : letters) {
            set |= 1 << c - 'a';
        }
        return set;
    }

    private static int bits(String text) {
        int set = 0;
        for (char c : text.toCharArray()) {
            set |= 1 << c - 'a';
        }
        return set;
    }

    int word(int word, int sort, int meaning, int rhyme, int rent) {
        if (out(word, 0, 7)) {
            return UNKNOWN;
        }
        if (out(sort, 0, 2) || out(meaning, 0, 4) || out(rhyme, 0, 3) || out(rent, 0, 99)) {
            return OUTSIDE;
        }
        char c = (char) ('a' + word);
        now.words.put(c, new Word(c, sort, meaning, rhyme, rent, 4));
        return now.words.size();
    }

    int strikeOut(int word) {
        if (unknown(word)) {
            return UNKNOWN;
        }
        now.words.remove((char) ('a' + word));
        return now.words.size();
    }

    int far(int meaning, int other, int v) {
        if (out(meaning, 0, 4) || out(other, 0, 4) || meaning == other || out(v, 0, 9)) {
            return OUTSIDE;
        }
        int was = now.far[meaning][other];
        now.far[meaning][other] = v;
        now.far[other][meaning] = v;
        return was;
    }

    int set(int which, int v) {
        if (out(which, 0, 1) || out(v, 1, which == 0 ? 99 : 9)) {
            return OUTSIDE;
        }
        int was = which == 0 ? now.cap : now.drift;
        if (which == 0) {
            now.cap = v;
        } else {
            now.drift = v;
        }
        return was;
    }

    int say(int sign) {
        if (out(sign, 33, 126)) {
            return OUTSIDE;
        }
        if (pad.length() == 60) {
            return FULL;
        }
        pad += (char) sign;
        return pad.length();
    }

    int wipe() {
        int was = pad.length();
        pad = "";
        return was;
    }

    private String sentenceShape() {
        StringBuilder shape = new StringBuilder();
        for (char c : pad.toCharArray()) {
            shape.append(now.words.containsKey(c) ? "NVJ".charAt(now.words.get(c).sort) : '?');
        }
        return shape.toString();
    }

    /** The longest beginning that some right text has; right texts are told as long as the PAD. */
    private static int fault(String shape, String... right) {
        int best = 0;
        for (String r : right) {
            if (r.equals(shape)) {
                return NONE;
            }
            int i = 0;
            while (i < r.length() && i < shape.length() && r.charAt(i) == shape.charAt(i)) {
                i++;
            }
            best = Math.max(best, i);
        }
        return best;
    }

    int fault(int how) {
        if (how == 0) {
            return fault(sentenceShape(), "NVN", "NVNJN");
        }
        if (how == 1) {
            if (pad.matches("([0-3][a-h][-+^v]|\\.)*")) {
                return NONE;
            }
            int good = pad.length();
            while (!pad.substring(0, good).matches("([0-3][a-h][-+^v]|\\.)*([0-3][a-h]?)?")) {
                good--;
            }
            return good;
        }
        return OUTSIDE;
    }

    int price(int speaker) {
        return out(speaker, 0, 4) ? UNKNOWN : fault(0) != NONE ? NO : now.price(pad, speaker);
    }

    int gets(int speaker, int firm) {
        return out(speaker, 0, 4) || out(firm, 0, 3) ? UNKNOWN : fault(0) != NONE ? NO : now.paid(pad, speaker)[firm];
    }

    private int away(String one, String other) {
        int sum = 0;
        for (int i = 0; i < one.length(); i++) {
            sum += now.far[now.words.get(one.charAt(i)).meaning][now.words.get(other.charAt(i)).meaning];
        }
        return sum;
    }

    int nearly(int speaker, int slack, int what) {
        if (out(speaker, 0, 4)) {
            return UNKNOWN;
        }
        boolean sentence = fault(0) == NONE;
        if (out(slack, 0, 36) || out(what, 0, sentence && pad.length() == 3 ? 4 : 6)) {
            return OUTSIDE;
        }
        if (!sentence) {
            return NO;
        }
        String best = now.sentences(pad.length()).stream().filter(t -> away(pad, t) <= slack)
                .min(Comparator.comparingInt((String t) -> now.price(t, speaker)).thenComparing(t -> t)).get();
        return what == 0 ? now.price(best, speaker) : what == 1 ? away(pad, best) : best.charAt(what - 2) - 'a';
    }

    int said(int speaker, int pence, int what) {
        if (out(speaker, 0, 4)) {
            return UNKNOWN;
        }
        if (out(pence, 0, 999) || out(what, 0, 6)) {
            return OUTSIDE;
        }
        List<String> all = now.sentences().stream().filter(t -> now.price(t, speaker) <= pence).toList();
        if (what == 0) {
            return all.size();
        }
        if (what == 1) {
            return (int) all.stream().filter(t -> t.length() == 5).count();
        }
        return all.isEmpty() || all.get(0).length() <= what - 2 ? NONE : all.get(0).charAt(what - 2) - 'a';
    }

    int misprints(int speaker, int what) {
        if (out(speaker, 0, 4)) {
            return UNKNOWN;
        }
        if (out(what, 0, 3)) {
            return OUTSIDE;
        }
        if (fault(0) != NONE) {
            return NO;
        }
        int count = 0, place = NONE, letter = NONE, price = NONE;
        for (int i = 0; i < pad.length(); i++) {
            for (char c = 'a'; c <= 'h'; c++) {
                String other = pad.substring(0, i) + c + pad.substring(i + 1);
                if (!other.equals(pad) && now.isSentence(other)) {
                    count++;
                    if (price == NONE || now.price(other, speaker) < price) {
                        place = i;
                        letter = c - 'a';
                        price = now.price(other, speaker);
                    }
                }
            }
        }
        return new int[] {count, place, letter, price}[what];
    }

    /** Plays the PAD on a copy: {acts done, why the next can not be or 0}. */
    private int[] play(All a) {
        int acts = 0;
        for (int i = 0; i < pad.length(); i += pad.charAt(i) == '.' ? 1 : 3) {
            if (pad.charAt(i) == '.') {
                a.day();
            } else {
                int why = a.act(pad.charAt(i) - '0', pad.charAt(i + 1), pad.charAt(i + 2));
                if (why != 0) {
                    return new int[] {acts, why};
                }
            }
            acts++;
        }
        return new int[] {acts, 0};
    }

    int judge(int what) {
        if (out(what, 0, 1)) {
            return OUTSIDE;
        }
        if (fault(1) != NONE) {
            return NO;
        }
        int[] end = play(now.copy());
        return end[1] == 0 ? NONE : end[what];
    }

    int done() {
        All a = now.copy();
        if (fault(1) != NONE) {
            return NO;
        }
        int[] end = play(a);
        if (end[1] != 0) {
            return NO;
        }
        now = a;
        pad = "";
        return end[0];
    }

    private static int of(All a, int word, int what) {
        Word w = a.words.get((char) ('a' + word));
        return new int[] {w.rent, w.holder, w.meaning}[what];
    }

    int state(int word, int what) {
        return unknown(word) ? UNKNOWN : out(what, 0, 2) ? OUTSIDE : of(now, word, what);
    }

    int behind(int word, int what) {
        if (unknown(word) || out(what, 0, 2)) {
            return state(word, what);
        }
        All a = now.copy();
        return fault(1) != NONE || play(a)[1] != 0 ? NO : of(a, word, what);
    }

    int after(int word, int m, int what) {
        if (unknown(word)) {
            return UNKNOWN;
        }
        if (out(m, 0, 99) || out(what, 0, 2)) {
            return OUTSIDE;
        }
        All a = now.copy();
        for (int i = 0; i < m; i++) {
            a.day();
        }
        return of(a, word, what);
    }

    private List<List<Integer>> ninetyNine() {
        All a = now.copy();
        List<List<Integer>> rows = new ArrayList<>();
        rows.add(a.allRents());
        for (int i = 0; i < 99; i++) {
            a.rents();
            rows.add(a.allRents());
        }
        return rows;
    }

    int settles() {
        List<List<Integer>> rows = ninetyNine();
        for (int i = 1; i <= 99; i++) {
            if (rows.get(i).equals(rows.get(i - 1))) {
                return i;
            }
        }
        return NONE;
    }

    int round() {
        if (settles() != NONE) {
            return NONE;
        }
        List<List<Integer>> rows = ninetyNine();
        for (int i = 0; i <= 99; i++) {
            for (int j = i + 1; j <= 99; j++) {
                if (rows.get(i).equals(rows.get(j))) {
                    return j - i;
                }
            }
        }
        return NONE;
    }

    int list() {
        if (fault(0) != NONE) {
            return NO;
        }
        if (now.list.size() == 4) {
            return FULL;
        }
        now.list.add(pad);
        pad = "";
        return now.list.size();
    }

    int held(int what) {
        if (out(what, 0, 1)) {
            return OUTSIDE;
        }
        for (int size = 0; size <= 8; size++) {
            for (int set = 0; set < 256; set++) {
                final int s = set;
                if (Integer.bitCount(s) == size && now.list.stream().allMatch(t -> (bits(t) & s) != 0)) {
                    return what == 0 ? size : set;
                }
            }
        }
        throw new AssertionError();
    }

    int strike(int set) {
        if (out(set, 0, 255)) {
            return OUTSIDE;
        }
        return (int) now.sentences().stream().filter(t -> (bits(t) & set) == 0).count();
    }

    int worst() {
        return now.words.keySet().stream().map(c -> c - 'a')
                .min(Comparator.comparingInt((Integer w) -> strike(1 << w)).thenComparingInt(w -> w)).orElse(NONE);
    }

    int seen(int firm, int set) {
        if (out(firm, 0, 3)) {
            return UNKNOWN;
        }
        if (out(set, 0, 255)) {
            return OUTSIDE;
        }
        if (now.sights.size() == 6) {
            return FULL;
        }
        now.sights.add(new Sight(firm, set));
        return now.sights.size();
    }

    int forget(int which) {
        if (out(which, 0, 1)) {
            return OUTSIDE;
        }
        List<?> gone = which == 0 ? now.list : now.sights;
        int was = gone.size();
        gone.clear();
        return was;
    }

    int spoke(int sight, int what) {
        if (out(sight, 0, now.sights.size() - 1) || out(what, 0, 3)) {
            return OUTSIDE;
        }
        Sight s = now.sights.get(sight);
        List<String> fit = now.sentences(3).stream().filter(t -> bits(now.costing(t, s.firm)) == s.set).toList();
        return what == 0 ? fit.size() : fit.isEmpty() ? NONE : fit.get(0).charAt(what - 1) - 'a';
    }

    int who() {
        if (fault(0) != NONE) {
            return NO;
        }
        int firms = 0;
        for (int f = 0; f < 4; f++) {
            final int firm = f;
            List<Sight> theirs = now.sights.stream().filter(s -> s.firm == firm).toList();
            if (theirs.isEmpty() || theirs.contains(new Sight(firm, bits(now.costing(pad, firm))))) {
                firms += 1 << firm;
            }
        }
        return firms;
    }

    /** By in and out: the chances of each group of the texts, all of it at once, are added or taken away. */
    long let(int t, int which, int part) {
        if (out(t, 0, 10) || out(which, 0, 2) || out(part, 0, 1)) {
            return LOST + OUTSIDE;
        }
        if (which == 0 && fault(0) != NONE) {
            return LOST + NO;
        }
        Set<Integer> wanted = new LinkedHashSet<>();
        for (String text : which == 0 ? List.of(pad) : which == 1 ? now.sentences(3) : now.list) {
            if (text.chars().allMatch(c -> now.words.containsKey((char) c))) {
                wanted.add(bits(text));
            }
        }
        Map<Integer, Integer> signed = new HashMap<>();
        for (int set : wanted) {
            Map<Integer, Integer> more = new HashMap<>(signed);
            more.merge(set, 1, Integer::sum);
            signed.forEach((s, n) -> more.merge(s | set, -n, Integer::sum));
            signed = more;
        }
        BigInteger upper = BigInteger.ZERO;
        BigInteger lower = BigInteger.TEN.pow(8);
        for (Map.Entry<Integer, Integer> e : signed.entrySet()) {
            int k = Integer.bitCount(e.getKey());
            upper = upper.add(BigInteger.valueOf(t).pow(k).multiply(BigInteger.TEN.pow(8 - k)).multiply(BigInteger.valueOf(e.getValue())));
        }
        BigInteger common = upper.gcd(lower);
        return (part == 0 ? upper : lower).divide(common).longValueExact();
    }

    /** What both get, buyer by buyer. */
    private static int[] market(int p, int q) {
        int[] got = new int[2];
        int alike = 0;
        for (int b = 1; b <= 9; b++) {
            if (Math.min(p, q) <= b) {
                if (p == q) {
                    alike++;
                } else {
                    got[p < q ? 0 : 1] += Math.min(p, q);
                }
            }
        }
        got[0] += alike / 2 * p;
        got[1] += (alike - alike / 2) * p;
        return got;
    }

    int rests(int word, int other, int i) {
        if (unknown(word) || unknown(other) || word == other) {
            return UNKNOWN;
        }
        Word one = now.words.get((char) ('a' + word));
        Word two = now.words.get((char) ('a' + other));
        if (one.sort != two.sort || one.holder == two.holder || one.holder == 4 || two.holder == 4) {
            return STATE;
        }
        List<Integer> pairs = new ArrayList<>();
        for (int p = 0; p <= 9; p++) {
            for (int q = 0; q <= 9; q++) {
                boolean rest = true;
                for (int z = 0; z <= 9; z++) {
                    rest &= market(z, q)[0] <= market(p, q)[0] && market(p, z)[1] <= market(p, q)[1];
                }
                if (rest) {
                    pairs.add(10 * p + q);
                }
            }
        }
        return i == -1 ? pairs.size() : out(i, 0, pairs.size() - 1) ? NONE : pairs.get(i);
    }

    int year(int seed, int m, int what) {
        if (out(seed, 0, 9999) || out(m, 1, 99) || out(what, 0, 2)) {
            return OUTSIDE;
        }
        All a = now.copy();
        int[] told = new int[3];
        long x = seed;
        for (int i = 0; i < m; i++) {
            x = (75 * x + 74) % 65537;
            int firm = (int) (x % 4);
            char c = (char) ('a' + x / 4 % 8);
            if (a.act(firm, c, '+') == 0) {
                told[0]++;
            } else if (a.act(firm, c, '-') == 0) {
                told[1]++;
            }
            a.day();
        }
        told[2] = a.words.values().stream().mapToInt(Word::rent).sum();
        return told[what];
    }

    int image(int n) {
        if (out(n, 0, 1)) {
            return OUTSIDE;
        }
        images[n] = now.copy();
        return 1;
    }

    int restore(int n) {
        if (out(n, 0, 1)) {
            return OUTSIDE;
        }
        if (images[n] == null) {
            return STATE;
        }
        now = images[n].copy();
        return 1;
    }

    int told(int what) {
        Map<Integer, Integer> all = new HashMap<>();
        all.put(0, pad.length());
        all.put(1, bits(now.words.keySet()));
        all.put(2, now.cap);
        all.put(3, now.drift);
        all.put(4, now.days);
        all.put(5, now.list.size());
        all.put(6, now.sights.size());
        for (Word w : now.words.values()) {
            all.put(10 * (1 + w.letter - 'a'), w.sort);
            all.put(10 * (1 + w.letter - 'a') + 1, w.rhyme);
        }
        for (int i = 0; i < 5; i++) {
            for (int j = 0; j < 5; j++) {
                all.put(100 + 10 * i + j, now.far[i][j]);
            }
        }
        return all.getOrDefault(what, OUTSIDE);
    }
}
