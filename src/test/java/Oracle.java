import java.util.ArrayList;
import java.util.Arrays;
import java.util.Collections;
import java.util.LinkedHashMap;
import java.util.List;
import java.util.Map;
import java.util.regex.Matcher;
import java.util.regex.Pattern;

/** The document once more, worked out anew at each call with texts, patterns and lists. */
final class Oracle {
    private static final int NONE = -1, BAD = -2, NOT = -3, FULL = -4;

    /** A SYLLABLE: where it is, its weight, its FOOT and BEAT. */
    private static final class Syl {
        int word, start, end, moras, foot = NONE, beat, heard;
    }

    /** Of a WORD: its text, and the numbers of its SYLLABLES. */
    private static final class Wrd {
        String text;
        int first, size, feet;
    }

    private static final class State {
        List<Wrd> words = new ArrayList<>();
        List<Syl> syls = new ArrayList<>();
        int moves;
    }

    private String text = "";
    private int[] ways = {0, 1, 0, 0, 0, 0, 0, 0, 0};
    private final Map<String, Integer> lexicon = new LinkedHashMap<>();
    private final int[] told = new int[60];
    private final Object[] sheets = new Object[4];
    private int latest = 0;

    // ---- the text, the ways

    int type(int b) {
        if (b < 0 || b > 255) return BAD;
        if (text.length() == 60) return FULL;
        text += (char) b;
        Arrays.fill(told, 0);
        return text.length();
    }

    int wipe() {
        int n = text.length();
        text = "";
        Arrays.fill(told, 0);
        return n;
    }

    int read(int s) {
        if (noSheet(s)) return BAD;
        if (sheets[s] == null) return finding(1);
        if (!(sheets[s] instanceof byte[])) return finding(3);
        StringBuilder b = new StringBuilder();
        for (byte x : (byte[]) sheets[s]) b.append((char) (x & 255));
        text = b.toString();
        Arrays.fill(told, 0);
        return text.length();
    }

    int flaw() {
        for (int p = 0; p < text.length(); p++) {
            char c = text.charAt(p);
            if (c != ' ' && !("" + c).matches("[a-z]")) return p;
            if (c == ' ' && endsBadly(text.substring(0, p))) return p;
        }
        return endsBadly(text) ? text.length() : NONE;
    }

    private static boolean endsBadly(String t) {
        if (t.isEmpty() || t.endsWith(" ")) return true;
        return !t.substring(t.lastIndexOf(' ') + 1).matches(".*[aeiou].*");
    }

    int way(int k, int v) {
        String[] told = {"01", "12", "012", "012", "012", "01", "01", "012", "0123"};
        if (k < 0 || k > 8 || v < 0 || v > 9 || told[k].indexOf('0' + v) < 0) return BAD;
        int was = ways[k];
        ways[k] = v;
        return was;
    }

    // ---- what all is made of

    private State state(int[] w) {
        State st = new State();
        if (flaw() != NONE) return st;
        int place = 0;
        for (String t : text.split(" ")) {
            Wrd word = new Wrd();
            word.text = t;
            word.first = st.syls.size();
            List<Syl> cut = cut(t, place, w);
            for (Syl s : cut) s.word = st.words.size();
            word.size = cut.size();
            beats(word, cut, w);
            st.words.add(word);
            st.syls.addAll(cut);
            place += t.length() + 1;
        }
        hear(st, w[8]);
        return st;
    }

    private static List<Syl> cut(String t, int place, int[] w) {
        Pattern nuclei = Pattern.compile(w[0] == 1 ? "[aeiou][iu]|aa|ee|oo|[aeiou]" : "([aeiou])\\1?");
        Matcher m = nuclei.matcher(t);
        List<int[]> found = new ArrayList<>();
        while (m.find()) found.add(new int[] {m.start(), m.end()});
        int[] bounds = new int[found.size() + 1];
        bounds[found.size()] = t.length();
        for (int i = 1; i < found.size(); i++) {
            int between = found.get(i)[0] - found.get(i - 1)[1];
            bounds[i] = found.get(i)[0] - (between < w[1] ? between : w[1]);
        }
        List<Syl> out = new ArrayList<>();
        for (int i = 0; i < found.size(); i++) {
            Syl s = new Syl();
            s.start = place + bounds[i];
            s.end = place + bounds[i + 1];
            String weighed = t;
            if (w[3] == 1 && !t.matches(".*[aeiou]")) weighed = t.substring(0, t.length() - 1);
            int to = Math.min(bounds[i + 1], weighed.length());
            String coda = weighed.substring(found.get(i)[1], to);
            if (coda.length() > w[2]) coda = coda.substring(0, w[2]);
            s.moras = found.get(i)[1] - found.get(i)[0] + coda.length();
            out.add(s);
        }
        return out;
    }

    /** FEET as lists of their SYLLABLES; the last item of each is the place of its BEAT. */
    private static List<int[]> feet(List<Syl> of, int[] w) {
        List<int[]> out = w[5] == 0 ? fromLeft(of, 0, w) : fromRight(of, of.size() - 1, w);
        if (out.isEmpty()) {
            int only = w[7] == 1 ? of.size() - 1 : 0;
            out.add(new int[] {only, only});
        }
        return out;
    }

    private static boolean heavy(List<Syl> of, int k) {
        return k >= 0 && k < of.size() && of.get(k).moras >= 2;
    }

    private static boolean light(List<Syl> of, int k) {
        return k >= 0 && k < of.size() && of.get(k).moras < 2;
    }

    private static List<int[]> fromLeft(List<Syl> of, int k, int[] w) {
        if (k >= of.size()) return new ArrayList<>();
        boolean next = k + 1 < of.size();
        int[] foot = null;
        if (w[4] == 0 && next) foot = new int[] {k, k + 1, k};
        if (w[4] == 1 && heavy(of, k)) foot = new int[] {k, k};
        if (w[4] == 1 && light(of, k) && light(of, k + 1)) foot = new int[] {k, k + 1, k};
        if (w[4] == 2 && heavy(of, k)) foot = new int[] {k, k};
        if (w[4] == 2 && light(of, k) && next) foot = new int[] {k, k + 1, k + 1};
        if (foot == null && w[6] == 1) foot = new int[] {k, k};
        List<int[]> rest = fromLeft(of, foot == null ? k + 1 : k + foot.length - 1, w);
        if (foot != null) rest.add(0, foot);
        return rest;
    }

    private static List<int[]> fromRight(List<Syl> of, int k, int[] w) {
        if (k < 0) return new ArrayList<>();
        int[] foot = null;
        if (w[4] == 0 && k >= 1) foot = new int[] {k - 1, k, k - 1};
        if (w[4] == 1 && heavy(of, k)) foot = new int[] {k, k};
        if (w[4] == 1 && light(of, k) && light(of, k - 1)) foot = new int[] {k - 1, k, k - 1};
        if (w[4] == 2 && heavy(of, k)) foot = new int[] {k, k};
        if (w[4] == 2 && light(of, k - 1)) foot = new int[] {k - 1, k, k};
        if (foot == null && w[6] == 1) foot = new int[] {k, k};
        List<int[]> rest = fromRight(of, foot == null ? k - 1 : k - foot.length + 1, w);
        if (foot != null) rest.add(foot);
        return rest;
    }

    private void beats(Wrd word, List<Syl> all, int[] w) {
        List<Syl> of = w[3] == 2 && all.size() > 1 ? all.subList(0, all.size() - 1) : all;
        List<int[]> feet = feet(of, w);
        word.feet = feet.size();
        List<Integer> places = new ArrayList<>();
        List<Integer> weights = new ArrayList<>();
        for (int f = 0; f < feet.size(); f++) {
            int[] foot = feet.get(f);
            for (int i = 0; i + 1 < foot.length; i++) all.get(foot[i]).foot = f;
            places.add(foot[foot.length - 1]);
            weights.add(all.get(foot[foot.length - 1]).moras);
        }
        int main = w[7] == 0 ? 0 : w[7] == 1 ? feet.size() - 1 : weights.indexOf(Collections.max(weights));
        for (int p : places) all.get(p).beat = 1;
        int mainPlace = places.get(main);
        if (inLexicon(word)) {
            mainPlace = lexicon.get(word.text);
            if (mainPlace > 0) all.get(mainPlace - 1).beat = 0;
            if (mainPlace + 1 < all.size()) all.get(mainPlace + 1).beat = 0;
        }
        all.get(mainPlace).beat = 2;
    }

    private boolean inLexicon(Wrd word) {
        return lexicon.containsKey(word.text) && lexicon.get(word.text) < word.size;
    }

    /** Of those that CLASH the first and the second, in order. */
    private static List<int[]> clashes(int[] beats, int window) {
        List<Integer> beaten = new ArrayList<>();
        for (int k = 0; k < beats.length; k++) if (beats[k] > 0) beaten.add(k);
        List<int[]> out = new ArrayList<>();
        for (int i = 0; i + 1 < beaten.size(); i++) {
            if (beaten.get(i + 1) - beaten.get(i) <= window) {
                out.add(new int[] {beaten.get(i), beaten.get(i + 1)});
            }
        }
        return out;
    }

    /** Where a BEAT could go to: {from, to}, or null. */
    private static int[] way2(State st, int[] h, int a, int b) {
        for (int k = a - 1; k >= 0 && st.syls.get(k).word == st.syls.get(a).word; k--) {
            if (h[k] == 1) return new int[] {a, k};
        }
        for (int k = b + 1; k < h.length && st.syls.get(k).word == st.syls.get(b).word; k++) {
            if (h[k] == 1) return new int[] {b, k};
        }
        return null;
    }

    private static void hear(State st, int window) {
        int[] h = new int[st.syls.size()];
        for (int k = 0; k < h.length; k++) h[k] = st.syls.get(k).beat;
        boolean going = true;
        while (going) {
            going = false;
            for (int[] two : clashes(h, window)) {
                int a = two[0], b = two[1];
                if (h[a] == 2 && h[b] == 2) {
                    int[] move = way2(st, h, a, b);
                    if (move == null) continue;
                    h[move[1]] = 2;
                    h[move[0]] = 0;
                } else if (h[a] <= h[b]) {
                    h[a] = 0;
                } else {
                    h[b] = 0;
                }
                st.moves++;
                going = true;
                break;
            }
        }
        for (int k = 0; k < h.length; k++) st.syls.get(k).heard = h[k];
    }

    private static int[] heardBeats(State st) {
        int[] h = new int[st.syls.size()];
        for (int k = 0; k < h.length; k++) h[k] = st.syls.get(k).heard;
        return h;
    }

    private static int[] plainBeats(State st) {
        int[] h = new int[st.syls.size()];
        for (int k = 0; k < h.length; k++) h[k] = st.syls.get(k).beat;
        return h;
    }

    private State state() {
        return state(ways);
    }

    int word(int k, int what) {
        State st = state();
        if (k < 0 || k >= st.words.size() || what < 0 || what > 5) return BAD;
        Wrd w = st.words.get(k);
        if (what == 0) return w.first;
        if (what == 1) return w.size;
        if (what == 2) return w.feet;
        if (what == 5) return inLexicon(w) ? 1 : 0;
        int[] beats = what == 3 ? plainBeats(st) : heardBeats(st);
        int found = -99;
        for (int i = w.first; i < w.first + w.size; i++) {
            if (beats[i] == 2) found = found == -99 ? i : -98;
        }
        return found;
    }

    int syllable(int k, int what) {
        State st = state();
        if (k < 0 || k >= st.syls.size() || what < 0 || what > 7) return BAD;
        Syl s = st.syls.get(k);
        int[] all = {s.word, s.start, s.end - s.start, s.moras, s.foot, s.beat, s.heard, told[k]};
        return all[what];
    }

    // ---- exceptions

    int mark(int k, int j) {
        State st = state();
        if (k < 0 || k >= st.words.size() || j < 0 || j >= st.words.get(k).size) return BAD;
        String t = st.words.get(k).text;
        if (!lexicon.containsKey(t) && lexicon.size() == 6) return FULL;
        lexicon.put(t, j);
        return lexicon.size();
    }

    int unmark(int k) {
        State st = state();
        if (k < 0 || k >= st.words.size()) return BAD;
        return lexicon.remove(st.words.get(k).text) == null ? NOT : lexicon.size();
    }

    int marked(int k) {
        State st = state();
        if (k < 0 || k >= st.words.size()) return BAD;
        return lexicon.getOrDefault(st.words.get(k).text, NONE);
    }

    // ---- beats

    int clash(int k) {
        List<int[]> all = clashes(plainBeats(state()), ways[8]);
        return k < 0 || k >= all.size() ? BAD : all.get(k)[0];
    }

    int heard(int what) {
        State st = state();
        int[] h = heardBeats(st);
        if (what == 0) return st.moves;
        if (what == 1) {
            int stuck = 0;
            for (int[] two : clashes(h, ways[8])) {
                if (h[two[0]] == 2 && h[two[1]] == 2 && way2(st, h, two[0], two[1]) == null) stuck++;
            }
            return stuck;
        }
        if (what == 2) return clashes(plainBeats(st), ways[8]).size();
        if (what == 3) return clashes(h, ways[8]).size();
        return BAD;
    }

    int tell(int k, int beat) {
        if (k < 0 || k >= state().syls.size() || beat < 0 || beat > 2) return BAD;
        int was = told[k];
        told[k] = beat;
        return was;
    }

    int copyHeard() {
        int[] h = heardBeats(state());
        int n = 0;
        for (int k = 0; k < h.length; k++) {
            told[k] = h[k];
            if (h[k] != 0) n++;
        }
        return n;
    }

    private int nearBy(int[] w) {
        int[] h = heardBeats(state(w));
        int n = 0;
        for (int k = 0; k < h.length; k++) if (h[k] == told[k]) n++;
        return n;
    }

    int near() {
        return nearBy(ways);
    }

    private int[] bestWays() {
        int[] best = null;
        for (int sort = 2; sort >= 0; sort--) {
            for (int from = 1; from >= 0; from--) {
                for (int rest = 1; rest >= 0; rest--) {
                    for (int main = 2; main >= 0; main--) {
                        int[] w = ways.clone();
                        w[4] = sort;
                        w[5] = from;
                        w[6] = rest;
                        w[7] = main;
                        int n = nearBy(w);
                        if (best == null || n >= best[4]) best = new int[] {sort, from, rest, main, n};
                    }
                }
            }
        }
        return best;
    }

    int nearest(int what) {
        return what < 0 || what > 4 ? BAD : bestWays()[what];
    }

    int learn() {
        int[] best = bestWays();
        System.arraycopy(best, 0, ways, 4, 4);
        return best[4];
    }

    int share(int what) {
        State st = state();
        int heavy = 0, all = 0, beaten = 0;
        for (Syl s : st.syls) {
            if (s.moras >= 2) heavy++;
            all += s.moras;
            if (s.heard > 0) beaten += s.moras;
        }
        float n = st.syls.size();
        if (n == 0 || what < 0 || what > 2) return 0;
        return Float.floatToIntBits(what == 0 ? near() / n : what == 1 ? heavy / n : beaten / (float) all);
    }

    private String shown() {
        State st = state();
        StringBuilder b = new StringBuilder();
        for (int k = 0; k < st.syls.size(); k++) {
            Syl s = st.syls.get(k);
            if (k > 0) b.append(st.syls.get(k - 1).word == s.word ? "." : " ");
            b.append(s.heard == 2 ? "'" : s.heard == 1 ? "," : "").append(text, s.start, s.end);
        }
        return b.toString();
    }

    int text(int n) {
        String t = shown();
        return n == NONE ? t.length() : n < 0 || n >= t.length() ? BAD : t.charAt(n);
    }

    // ---- sheets

    private static boolean noSheet(int s) {
        return s < 0 || s > 3;
    }

    private int finding(int f) {
        latest = f;
        return -10 - f;
    }

    private static int formOf(Object o) {
        return o instanceof byte[] ? 0 : o instanceof int[] ? 1 : 2;
    }

    private static int sizeOf(Object o) {
        return java.lang.reflect.Array.getLength(o);
    }

    int sheet(int s, int form, int n) {
        if (noSheet(s) || form < 0 || form > 2 || n > 60) return BAD;
        if (n < 0) return finding(5);
        sheets[s] = form == 0 ? new byte[n] : form == 1 ? new int[n] : new float[n];
        return n;
    }

    int lose(int s) {
        if (noSheet(s)) return BAD;
        if (sheets[s] == null) return finding(1);
        int n = sizeOf(sheets[s]);
        sheets[s] = null;
        return n;
    }

    int put(int s, int form, int i, int v) {
        if (noSheet(s) || form < 0 || form > 2) return BAD;
        if (sheets[s] == null) return finding(1);
        if (formOf(sheets[s]) != form) return finding(3);
        if (i < 0 || i >= sizeOf(sheets[s])) return finding(2);
        if (form == 0) ((byte[]) sheets[s])[i] = (byte) v;
        if (form == 1) ((int[]) sheets[s])[i] = v;
        if (form == 2) ((float[]) sheets[s])[i] = v / 8f;
        return 1;
    }

    int get(int s, int i) {
        if (noSheet(s)) return Integer.MIN_VALUE;
        if (sheets[s] == null) {
            finding(1);
            return Integer.MIN_VALUE;
        }
        if (i < 0 || i >= sizeOf(sheets[s])) {
            finding(2);
            return Integer.MIN_VALUE;
        }
        if (sheets[s] instanceof byte[] b) return b[i];
        if (sheets[s] instanceof int[] n) return n[i];
        return (int) (((float[]) sheets[s])[i] * 8);
    }

    int copy(int s, int i, int t, int j, int n) {
        if (noSheet(s) || noSheet(t)) return BAD;
        if (sheets[s] == null || sheets[t] == null) return finding(1);
        if (formOf(sheets[s]) != formOf(sheets[t])) return finding(4);
        try {
            System.arraycopy(sheets[s], i, sheets[t], j, n);
        } catch (IndexOutOfBoundsException e) {
            return finding(2);
        }
        return 1;
    }

    int write(int s) {
        if (noSheet(s)) return BAD;
        if (sheets[s] == null) return finding(1);
        State st = state();
        int n = Math.min(sizeOf(sheets[s]), st.syls.size());
        for (int k = 0; k < n; k++) {
            Syl y = st.syls.get(k);
            if (sheets[s] instanceof byte[] b) b[k] = (byte) y.heard;
            if (sheets[s] instanceof int[] b) b[k] = y.heard;
            if (sheets[s] instanceof float[] b) b[k] = (float) y.heard / y.moras;
        }
        return n;
    }

    int count(int what) {
        State st = state();
        int feet = 0, heavy = 0, moras = 0, beaten = 0;
        for (Wrd w : st.words) feet += w.feet;
        for (Syl s : st.syls) {
            moras += s.moras;
            if (s.moras > 1) heavy++;
            if (s.heard > 0) beaten++;
        }
        int[] all = {text.length(), st.words.size(), st.syls.size(), feet, heavy, lexicon.size(),
            beaten, moras, latest};
        return what < 0 || what > 8 ? BAD : all[what];
    }

    long digest() {
        List<Integer> all = new ArrayList<>();
        for (int i = 0; i <= 7; i++) all.add(count(i));
        all.add(flaw());
        for (int k = 0; k < count(1); k++) {
            for (int i = 0; i <= 5; i++) all.add(word(k, i));
            all.add(marked(k));
        }
        for (int k = 0; k < count(2); k++) for (int i = 0; i <= 7; i++) all.add(syllable(k, i));
        for (int k = 0; clash(k) != BAD; k++) all.add(clash(k));
        for (int i = 0; i <= 3; i++) all.add(heard(i));
        all.add(near());
        for (int i : bestWays()) all.add(i);
        for (int i = 0; i <= 2; i++) all.add(share(i));
        String t = shown();
        all.add(t.length());
        for (char c : t.toCharArray()) all.add((int) c);
        long h = 17;
        for (int x : all) h = 31 * h + x;
        return h;
    }
}
