import java.util.ArrayDeque;
import java.util.ArrayList;
import java.util.Arrays;
import java.util.Collections;
import java.util.Deque;
import java.util.HashSet;
import java.util.List;
import java.util.Set;
import java.util.TreeSet;
import java.util.regex.Pattern;

/**
 * The document once more, by trying out all rows and all cuts: slow, and unlike the class in how it finds its
 * answers, so that the two err in different places.
 */
final class Model {
    static final int BAD = -1, NO = -2, FULL = -3, NONE = -4;
    /** Above this many rows a word's writings are not told out one by one; the caller passes such texts over. */
    static final int MOST_ROWS = 60000;

    private static final Pattern ITEM = Pattern.compile(
        "p[0-5],[a-z]{1,4}|s[a-z]{1,4}|m[0-5]|w[0-5],[a-z]{1,8}|k[01]");

    private record Sign(int kind, int group, String sound) {
    }

    private record Word(int group, String letters) {
    }

    private record State(Set<Integer> struck, int law, List<Integer> inscription) {
    }

    private String text = "";
    private List<Sign> signs = new ArrayList<>();
    private List<Word> words = new ArrayList<>();
    private Set<Integer> struck = new TreeSet<>();
    private int law = 0;
    private List<Integer> inscription = new ArrayList<>();
    private Deque<State> states = new ArrayDeque<>();
    private List<List<List<Integer>>> rows = null;

    Model() {
        text = "p0,bee;p1,leaf;p2,eye;p3,can;sn;st;sb;sl;m4;m1;"
            + "w4,beleaf;w1,leaf;w4,canoe;w3,can;w5,cant;w2,bee;w0,bee;k1;";
        lay();
        text = "";
    }

    int write(int letter) {
        if (letter < 32 || letter > 126) {
            return BAD;
        }
        if (text.length() == 200) {
            return FULL;
        }
        text += (char) letter;
        return text.length();
    }

    int wipe() {
        int length = text.length();
        text = "";
        return length;
    }

    int fault() {
        int signsThere = 0;
        Set<String> wordsThere = new HashSet<>();
        int at = 0;
        while (at < text.length()) {
            int end = text.indexOf(';', at);
            if (end < 0 || !ITEM.matcher(text.substring(at, end)).matches()) {
                return at;
            }
            String item = text.substring(at, end);
            if ("psm".indexOf(item.charAt(0)) >= 0 && ++signsThere > 12) {
                return at;
            }
            if (item.charAt(0) == 'w' && (!wordsThere.add(item) || wordsThere.size() > 8)) {
                return at;
            }
            at = end + 1;
        }
        return NONE;
    }

    int lay() {
        if (fault() != NONE || !("\n;" + text).matches("(?s).*;[psm].*") || !(";" + text).matches(".*;w.*")) {
            return NO;
        }
        signs = new ArrayList<>();
        words = new ArrayList<>();
        struck = new TreeSet<>();
        inscription = new ArrayList<>();
        states.clear();
        law = 0;
        rows = null;
        for (String item : text.split(";")) {
            switch (item.charAt(0)) {
                case 'p' -> signs.add(new Sign(0, item.charAt(1) - '0', item.substring(3)));
                case 's' -> signs.add(new Sign(1, NONE, item.substring(1)));
                case 'm' -> signs.add(new Sign(2, item.charAt(1) - '0', ""));
                case 'w' -> words.add(new Word(item.charAt(1) - '0', item.substring(3)));
                default -> law = item.charAt(1) - '0';
            }
        }
        return signs.size();
    }

    private void remember() {
        states.addLast(new State(new TreeSet<>(struck), law, new ArrayList<>(inscription)));
        if (states.size() > 6) {
            states.removeFirst();
        }
    }

    int strike(int s, int is) {
        if (s < 0 || s >= signs.size() || is < 0 || is > 1) {
            return BAD;
        }
        if (struck.contains(s) == (is == 1)) {
            return NO;
        }
        remember();
        if (is == 1) {
            struck.add(s);
        } else {
            struck.remove(s);
        }
        rows = null;
        return struck.size();
    }

    int law(int l) {
        if (l < 0 || l > 1) {
            return BAD;
        }
        if (law == l) {
            return NO;
        }
        remember();
        law = l;
        rows = null;
        return 1 - l;
    }

    int carve(int s) {
        if (s < 0 || s >= signs.size()) {
            return BAD;
        }
        if (inscription.size() == 16) {
            return FULL;
        }
        remember();
        inscription.add(s);
        return inscription.size();
    }

    int chip() {
        if (inscription.isEmpty()) {
            return NO;
        }
        remember();
        return inscription.remove(inscription.size() - 1);
    }

    int undo() {
        if (states.isEmpty()) {
            return NO;
        }
        State last = states.removeLast();
        struck = last.struck();
        law = last.law();
        inscription = last.inscription();
        rows = null;
        return states.size();
    }

    private boolean isWord(int w) {
        return w >= 0 && w < words.size();
    }

    /** All ends that the sounds of a row can have in a word, by each way to lay them in. */
    private Set<Integer> ends(String word, Set<Integer> from, String sound) {
        Set<Integer> ends = new TreeSet<>();
        for (int start : from) {
            for (int at = start; at + sound.length() <= word.length(); at++) {
                boolean skips = word.substring(start, at).matches(law == 1 ? "[aeiou]*" : "");
                if (skips && word.startsWith(sound, at)) {
                    ends.add(at + sound.length());
                }
            }
        }
        return ends;
    }

    /** All writings of a word without a mark. */
    private void tellRows(String word, Set<Integer> from, List<Integer> row, List<List<Integer>> all) {
        for (int s = 0; s < signs.size() && all.size() <= MOST_ROWS; s++) {
            if (struck.contains(s) || signs.get(s).kind() == 2) {
                continue;
            }
            Set<Integer> ends = ends(word, from, signs.get(s).sound());
            if (ends.isEmpty()) {
                continue;
            }
            List<Integer> longer = new ArrayList<>(row);
            longer.add(s);
            if (ends.stream().anyMatch(e -> word.substring(e).matches(law == 1 ? "[aeiou]*" : ""))) {
                all.add(longer);
            }
            tellRows(word, ends, longer, all);
        }
    }

    private List<List<Integer>> rowsOf(int w) {
        if (rows == null) {
            rows = new ArrayList<>(Collections.nCopies(words.size(), null));
        }
        if (rows.get(w) == null) {
            List<List<Integer>> all = new ArrayList<>();
            tellRows(words.get(w).letters(), Set.of(0), new ArrayList<>(), all);
            rows.set(w, all);
        }
        return rows.get(w);
    }

    boolean isTooLarge() {
        for (int w = 0; w < words.size(); w++) {
            if (rowsOf(w).size() > MOST_ROWS) {
                return true;
            }
        }
        return false;
    }

    private int leftOut(int w, List<Integer> row) {
        return words.get(w).letters().length() - row.stream().mapToInt(s -> signs.get(s).sound().length()).sum();
    }

    private static int compareRows(List<Integer> a, List<Integer> b) {
        return Arrays.compare(a.stream().mapToInt(x -> x).toArray(), b.stream().mapToInt(x -> x).toArray());
    }

    private List<Integer> leastOf(int w) {
        List<Integer> best = null;
        for (List<Integer> row : rowsOf(w)) {
            if (best == null) {
                best = row;
                continue;
            }
            int by = Integer.compare(row.size(), best.size());
            by = by != 0 ? by : Integer.compare(leftOut(w, row), leftOut(w, best));
            by = by != 0 ? by : compareRows(row, best);
            best = by < 0 ? row : best;
        }
        return best;
    }

    /** By a pattern of the sounds with vowels between them. */
    private boolean writes(List<Integer> row, Word word) {
        String gap = law == 1 ? "[aeiou]*" : "";
        StringBuilder pattern = new StringBuilder(gap);
        int sounds = 0;
        for (int i = 0; i < row.size(); i++) {
            Sign sign = signs.get(row.get(i));
            if (struck.contains(row.get(i))) {
                return false;
            }
            if (sign.kind() == 2) {
                if (i < row.size() - 1 || sign.group() != word.group()) {
                    return false;
                }
                continue;
            }
            sounds++;
            pattern.append(sign.sound()).append(gap);
        }
        return sounds > 0 && word.letters().matches(pattern.toString());
    }

    private int wordsOf(List<Integer> row) {
        int bits = 0;
        for (int w = 0; w < words.size(); w++) {
            if (writes(row, words.get(w))) {
                bits |= 1 << w;
            }
        }
        if (row.size() == 1 && !struck.contains(row.get(0)) && signs.get(row.get(0)).kind() == 0) {
            Sign sign = signs.get(row.get(0));
            int own = words.indexOf(new Word(sign.group(), sign.sound()));
            return own >= 0 ? 1 << own : bits;
        }
        return bits;
    }

    private int lowestMark(int group) {
        for (int s = 0; s < signs.size(); s++) {
            if (signs.get(s).kind() == 2 && signs.get(s).group() == group && !struck.contains(s)) {
                return s;
            }
        }
        return NONE;
    }

    private int clearness(int w) {
        List<Integer> least = leastOf(w);
        if (least == null) {
            return 0;
        }
        if (wordsOf(least) == 1 << w) {
            return 1;
        }
        int mark = lowestMark(words.get(w).group());
        if (mark == NONE) {
            return 0;
        }
        List<Integer> marked = new ArrayList<>(least);
        marked.add(mark);
        return wordsOf(marked) == 1 << w ? 2 : 0;
    }

    private boolean areMixed(int v, int w) {
        return v != w && leastOf(v) != null && leastOf(v).equals(leastOf(w));
    }

    int sign(int s, int what) {
        if (s < 0 || s >= signs.size() || what < 0 || what > 4) {
            return BAD;
        }
        Sign sign = signs.get(s);
        if (what < 4) {
            return new int[] {sign.kind(), sign.group(), sign.sound().length(), struck.contains(s) ? 1 : 0}[what];
        }
        int all = 0;
        for (int w = 0; w < words.size(); w++) {
            all += leastOf(w) != null && leastOf(w).contains(s) ? 1 : 0;
        }
        return all;
    }

    int word(int w, int what) {
        if (!isWord(w) || what < 0 || what > 4) {
            return BAD;
        }
        String letters = words.get(w).letters();
        switch (what) {
            case 0:
                return words.get(w).group();
            case 1:
                return letters.length();
            case 2:
                return letters.replaceAll("[^aeiou]", "").length();
            case 3:
                return clearness(w);
            default:
                int all = 0;
                for (int v = 0; v < words.size(); v++) {
                    all += areMixed(v, w) ? 1 : 0;
                }
                return all;
        }
    }

    int least(int w, int k) {
        if (!isWord(w) || k < -2) {
            return BAD;
        }
        List<Integer> least = leastOf(w);
        if (least == null || k >= least.size()) {
            return NONE;
        }
        return k == -1 ? least.size() : k == -2 ? leftOut(w, least) : least.get(k);
    }

    int mark(int w) {
        if (!isWord(w)) {
            return BAD;
        }
        return clearness(w) == 2 ? lowestMark(words.get(w).group()) : NONE;
    }

    long writings(int w) {
        if (!isWord(w)) {
            return BAD;
        }
        long all = rowsOf(w).size();
        for (int s = 0; s < signs.size(); s++) {
            if (signs.get(s).kind() == 2 && signs.get(s).group() == words.get(w).group() && !struck.contains(s)) {
                all += rowsOf(w).size();
            }
        }
        return all;
    }

    int carved(int k) {
        return k < 0 ? BAD : k < inscription.size() ? inscription.get(k) : NONE;
    }

    int read(int i, int n) {
        if (i < 0 || n < 1 || n > 9) {
            return BAD;
        }
        return (long) i + n > inscription.size() ? NO : wordsOf(inscription.subList(i, i + n));
    }

    /** A way to cut the inscription: for each row its length and its lowest word; and how many readings it has. */
    private record Cut(List<Integer> told, long readings) {
    }

    private List<Cut> cuts() {
        int size = inscription.size();
        int[][] bits = new int[size][10];
        for (int i = 0; i < size; i++) {
            for (int n = 1; n <= 9 && i + n <= size; n++) {
                bits[i][n] = wordsOf(inscription.subList(i, i + n));
            }
        }
        List<Cut> all = new ArrayList<>();
        tellCuts(bits, 0, new ArrayList<>(), 1, all);
        return all;
    }

    private void tellCuts(int[][] bits, int from, List<Integer> told, long readings, List<Cut> all) {
        if (from == bits.length) {
            all.add(new Cut(told, readings));
            return;
        }
        for (int n = 1; n <= 9 && from + n <= bits.length; n++) {
            if (bits[from][n] != 0) {
                List<Integer> longer = new ArrayList<>(told);
                longer.add(n);
                longer.add(Integer.numberOfTrailingZeros(bits[from][n]));
                tellCuts(bits, from + n, longer, readings * Integer.bitCount(bits[from][n]), all);
            }
        }
    }

    long readings() {
        return cuts().stream().mapToLong(Cut::readings).sum();
    }

    private List<Integer> theReading() {
        List<Integer> best = null;
        for (Cut cut : cuts()) {
            List<Integer> told = cut.told();
            if (best == null || told.size() < best.size()
                || (told.size() == best.size() && compareRows(told, best) < 0)) {
                best = told;
            }
        }
        return best;
    }

    int reading(int k) {
        if (k < -1) {
            return BAD;
        }
        List<Integer> told = theReading();
        if (told == null || k >= told.size() / 2) {
            return NONE;
        }
        return k == -1 ? told.size() / 2 : told.get(2 * k + 1);
    }

    int cut(int k) {
        if (k < 0) {
            return BAD;
        }
        List<Integer> told = theReading();
        return told == null || k >= told.size() / 2 ? NONE : told.get(2 * k);
    }

    int count(int what) {
        int all = 0;
        switch (what) {
            case 0:
                return signs.size();
            case 1:
                return words.size();
            case 2:
                return law;
            case 3:
                return struck.size();
            case 4:
                return inscription.size();
            case 5:
                for (int w = 0; w < words.size(); w++) {
                    all += writings(w) > 0 ? 1 : 0;
                }
                return all;
            case 6:
                for (int w = 0; w < words.size(); w++) {
                    all += clearness(w) != 0 ? 1 : 0;
                }
                return all;
            case 7:
                for (int w = 0; w < words.size(); w++) {
                    for (int v = 0; v < w; v++) {
                        all += areMixed(v, w) ? 1 : 0;
                    }
                }
                return all;
            case 8:
                return states.size();
            case 9:
                return text.length();
            default:
                return BAD;
        }
    }
}
