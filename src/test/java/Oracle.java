import java.math.BigInteger;
import java.util.ArrayList;
import java.util.Arrays;
import java.util.List;
import java.util.TreeSet;
import java.util.regex.Matcher;
import java.util.regex.Pattern;

/**
 * The document once more, word by word and without thrift: every question plays the whole
 * evening anew, every set of coughs is tried. It shares no code with the class that it checks.
 */
final class Oracle {
    private static final int NONE = -1, BAD = -2, NOT = -3, FULL = -4;
    private static final int STEPS = 40;

    /** What is changed for one evening. */
    private static final class Change {
        int farther = NONE;
        boolean[][] coughs = new boolean[STEPS][9];
        int[] whisper = new int[STEPS];

        Change() {
            Arrays.fill(whisper, NONE);
        }
    }

    private final StringBuilder[] texts = {new StringBuilder(), new StringBuilder()};
    private final List<int[]> moves = new ArrayList<>();
    private final List<int[]> coughs = new ArrayList<>();
    private final List<Integer> darks = new ArrayList<>();
    private final List<int[]> seen = new ArrayList<>();
    private final Object[] sheets = new Object[4];
    private int finding = 0;
    private boolean changed = true;
    private String play = "";
    private String[] holes = {};

    // ---- texts

    private static boolean in(int v, int low, int high) {
        return low <= v && v <= high;
    }

    int type(int text, int b) {
        if (!in(text, 0, 1) || !in(b, 0, 255)) return BAD;
        if (texts[text].length() == (text == 0 ? 24 : 44)) return FULL;
        changed = true;
        return texts[text].append((char) b).length();
    }

    int wipe(int text) {
        if (!in(text, 0, 1)) return BAD;
        int had = texts[text].length();
        changed = true;
        texts[text].setLength(0);
        return had;
    }

    int undo(int text) {
        if (!in(text, 0, 1)) return BAD;
        if (texts[text].length() == 0) return NOT;
        changed = true;
        texts[text].setLength(texts[text].length() - 1);
        return texts[text].length();
    }

    private static final Pattern PLAY = Pattern.compile("[a-h]*");
    private static final Pattern HOLES = Pattern.compile("([a-j][0-9][nryl][a-h](;[a-j][0-9][nryl][a-h]){0,8})?");

    /** The first byte behind which no end makes the text well; the end of one that needs more. */
    int fault(int text) {
        if (!in(text, 0, 1)) return BAD;
        Pattern p = text == 0 ? PLAY : HOLES;
        String t = texts[text].toString();
        for (int n = 1; n <= t.length(); n++) {
            Matcher m = p.matcher(t.substring(0, n));
            if (!m.matches() && !m.hitEnd()) return n - 1;
        }
        return p.matcher(t).matches() ? NONE : t.length();
    }

    private String play() {
        keepTexts();
        return play;
    }

    private String[] holes() {
        keepTexts();
        return holes;
    }

    /** The texts are read again only when they changed: the one thrift, for the test's time. */
    private void keepTexts() {
        if (!changed) return;
        changed = false;
        play = fault(0) == NONE ? texts[0].toString() : "";
        holes = fault(1) == NONE && texts[1].length() > 0 ? texts[1].toString().split(";") : new String[0];
    }

    int line(int place) {
        if (!in(place, 0, 23)) return BAD;
        return place < play().length() ? play().charAt(place) - 'a' : NONE;
    }

    int hole(int hole, int what) {
        String[] h = holes();
        if (!in(hole, 0, h.length - 1) || !in(what, 0, 3)) return BAD;
        char c = h[hole].charAt(what);
        return what == 0 || what == 3 ? c - 'a' : what == 1 ? c - '0' : "nryl".indexOf(c);
    }

    int printed(int line, int what) {
        if (!in(line, 0, 7) || !in(what, 0, 1)) return BAD;
        String p = play();
        if (p.isEmpty()) return NONE;
        int at = p.indexOf('a' + line);
        if (at < 0) return p.charAt(0) - 'a';
        String round = p.charAt(p.length() - 1) + p + p.charAt(0);
        return round.charAt(what == 0 ? at + 2 : at) - 'a';
    }

    // ---- what is told

    int move(int step, int place) {
        if (!in(step, 0, 39) || !in(place, 0, 9)) return BAD;
        if (moves.size() == 12) return FULL;
        moves.add(new int[] {step, place});
        return moves.size();
    }

    int cough(int step, int hole) {
        if (!in(step, 0, 39) || !in(hole, 0, 8)) return BAD;
        if (coughs.size() == 12) return FULL;
        coughs.add(new int[] {step, hole});
        return coughs.size();
    }

    int dark(int step) {
        if (!in(step, 0, 39)) return BAD;
        if (darks.size() == 6) return FULL;
        darks.add(step);
        return darks.size();
    }

    int back(int what) {
        if (!in(what, 0, 2)) return BAD;
        List<?> list = what == 0 ? moves : what == 1 ? coughs : darks;
        if (list.isEmpty()) return NOT;
        list.remove(list.size() - 1);
        return list.size();
    }

    int read(int s) {
        if (!in(s, 0, 3)) return BAD;
        if (sheets[s] == null) return found(1);
        int n = 0;
        while (2 * n + 1 < size(s) && move(item(s, 2 * n), item(s, 2 * n + 1)) > 0) n++;
        return n;
    }

    // ---- the evening

    private int stands(int step) {
        int[] latest = null;
        for (int[] m : moves) {
            if (m[0] <= step && (latest == null || m[0] >= latest[0])) latest = m;
        }
        return latest == null ? 0 : latest[1];
    }

    private boolean toldCough(int step, int hole) {
        for (int[] c : coughs) {
            if (c[0] == step && c[1] == hole) return true;
        }
        return false;
    }

    private int whisper(int step, int hole, int ahead, Change change) {
        if (step == 0 || darks.contains(step) || ahead == NONE) return NONE;
        int farther = change.farther == hole ? 1 : 0;
        if (Math.abs(stands(step - 1) - hole(hole, 0)) > hole(hole, 1) + farther) return NONE;
        int own = hole(hole, 3);
        int said;
        switch (holes()[hole].charAt(2)) {
            case 'n': said = printed(ahead, 0); break;
            case 'r': said = ahead; break;
            case 'y': said = ahead != own ? own : printed(ahead, 0); break;
            default: said = own == printed(ahead, 0) || own == printed(ahead, 1) ? own : ahead;
        }
        return toldCough(step, hole) || change.coughs[step][hole] ? (said == 7 ? 0 : said + 1) : said;
    }

    /** Rows of what is played (0) and by whom (1). */
    private int[][] evening(Change change) {
        int[][] rows = new int[2][STEPS];
        Arrays.fill(rows[0], NONE);
        Arrays.fill(rows[1], NONE);
        if (play().isEmpty()) return rows;
        for (int step = 0; step < STEPS; step++) {
            if (change.whisper[step] != NONE) {
                rows[0][step] = change.whisper[step];
            } else if (step == 0 || darks.contains(step)) {
                rows[0][step] = line(0);
            } else {
                int ahead = rows[0][step - 1];
                rows[0][step] = printed(ahead, 0);
                int least = Integer.MAX_VALUE;
                for (int h = 0; h < holes().length; h++) {
                    int said = whisper(step, h, ahead, change);
                    int way = Math.abs(hole(h, 0) - stands(step));
                    if (said != NONE && way < least) {
                        least = way;
                        rows[0][step] = said;
                        rows[1][step] = h;
                    }
                }
            }
        }
        return rows;
    }

    private int[] lines() {
        return evening(new Change())[0];
    }

    int step(int step, int what) {
        if (!in(step, 0, 39) || !in(what, 0, 3)) return BAD;
        if (what == 2) return stands(step);
        if (what == 3) return play().isEmpty() ? NONE : line(step % play().length());
        return evening(new Change())[what][step];
    }

    int whispers(int step, int hole) {
        if (!in(step, 0, 39) || !in(hole, 0, holes().length - 1)) return BAD;
        return step == 0 ? NONE : whisper(step, hole, lines()[step - 1], new Change());
    }

    int drift(int what) {
        if (!in(what, 0, 1)) return BAD;
        List<Integer> off = new ArrayList<>();
        int[] lines = lines();
        for (int s = 0; s < STEPS; s++) {
            if (lines[s] != step(s, 3)) off.add(s);
        }
        return off.isEmpty() ? NONE : what == 0 ? off.get(0) : off.size();
    }

    int round() {
        int[] lines = lines();
        for (int p = 1; p <= 12; p++) {
            if (Arrays.equals(lines, 16, STEPS - p, lines, 16 + p, STEPS)) return p;
        }
        return NONE;
    }

    int often(int line, int what) {
        if (!in(line, 0, 7) || !in(what, 0, 1)) return BAD;
        int many = 0;
        int last = NONE;
        int[] lines = lines();
        for (int s = 0; s < STEPS; s++) {
            if (lines[s] == line) {
                many++;
                last = s;
            }
        }
        return what == 0 ? many : last;
    }

    // ---- plans

    int may(int at, int step) {
        if (!in(at, 0, 39) || !in(step, 0, 39)) return BAD;
        int bits = 0;
        for (int set = 0; set < 1 << holes().length; set++) {
            Change change = new Change();
            for (int h = 0; h < 9; h++) change.coughs[at][h] = (set >> h & 1) != 0;
            int line = evening(change)[0][step];
            if (line != NONE) bits |= 1 << line;
        }
        return bits;
    }

    int prompt(int from, int step, int line, int what) {
        if (!in(from, 1, 39) || !in(step, 0, 39) || from >= step || !in(line, 0, 7) || !in(what, 0, 2)) return BAD;
        TreeSet<Integer> found = new TreeSet<>();
        for (int at = from; at < step; at++) {
            for (int w = 0; w < 8; w++) {
                Change change = new Change();
                change.whisper[at] = w;
                if (evening(change)[0][step] == line) found.add(8 * at + w);
            }
        }
        if (what == 2) return found.size();
        return found.isEmpty() ? NONE : what == 0 ? found.first() : found.last() / 8;
    }

    // ---- seen

    int seen(int step, int line) {
        if (!in(step, 0, 39) || !in(line, 0, 7)) return BAD;
        if (seen.size() == 8) return FULL;
        seen.add(new int[] {step, line});
        return seen.size();
    }

    int forget() {
        int had = seen.size();
        seen.clear();
        return had;
    }

    private boolean comesOut(int[] lines) {
        return seen.stream().allMatch(s -> lines[s[0]] == s[1]);
    }

    int filed() {
        int bits = 0;
        for (int h = 0; h < holes().length; h++) {
            Change change = new Change();
            change.farther = h;
            if (comesOut(evening(change)[0])) bits |= 1 << h;
        }
        return bits;
    }

    private int[] withCough(int at, int hole) {
        Change change = new Change();
        change.coughs[at][hole] = true;
        return evening(change)[0];
    }

    int coughed(int hole) {
        if (!in(hole, 0, holes().length - 1)) return BAD;
        int bits = 0;
        for (int at = 0; at <= 30; at++) {
            if (comesOut(withCough(at, hole))) bits |= 1 << at;
        }
        return bits;
    }

    int ask(int hole) {
        int may = coughed(hole);
        if (may == BAD) return BAD;
        int best = NONE;
        int least = Integer.MAX_VALUE;
        int[][] runs = new int[31][];
        for (int at = 0; at <= 30; at++) runs[at] = withCough(at, hole);
        for (int s = 0; s < STEPS; s++) {
            int greatest = 0;
            for (int line = 0; line < 8; line++) {
                int many = 0;
                for (int at = 0; at <= 30; at++) {
                    if ((may >> at & 1) != 0 && runs[at][s] == line) many++;
                }
                greatest = Math.max(greatest, many);
            }
            if (greatest < least) {
                least = greatest;
                best = s;
            }
        }
        return best;
    }

    long slips(int c, int hole, int line, int step, int what) {
        if (!in(c, 0, 16) || !in(hole, 0, holes().length - 1) || !in(line, 0, 7) || !in(step, 1, 9) || !in(what, 0, 1)) {
            return Long.MIN_VALUE + 2;
        }
        List<int[]> told = new ArrayList<>(coughs);
        coughs.removeIf(t -> t[1] == hole && in(t[0], 1, step));
        BigInteger above = BigInteger.ZERO;
        for (int set = 0; set < 1 << step; set++) {
            Change change = new Change();
            BigInteger weight = BigInteger.ONE;
            for (int at = 1; at <= step; at++) {
                boolean coughing = (set >> at - 1 & 1) != 0;
                change.coughs[at][hole] = coughing;
                weight = weight.multiply(BigInteger.valueOf(coughing ? c : 16 - c));
            }
            if (weight.signum() != 0 && evening(change)[0][step] == line) above = above.add(weight);
        }
        coughs.clear();
        coughs.addAll(told);
        BigInteger below = BigInteger.valueOf(16).pow(step);
        BigInteger divisor = above.gcd(below);
        return (what == 0 ? above : below).divide(divisor).longValueExact();
    }

    int evening(int seed, int step, int what) {
        if (!in(step, 0, 39) || !in(what, 0, 1)) return BAD;
        Change change = new Change();
        long s = seed & 0xffffffffL;
        int many = holes().length;
        for (int at = 1; at < STEPS && many > 0; at++) {
            s = s * 1103515245L + 12345L & 0xffffffffL;
            int hole = (int) (s / 65536 % many);
            s = s * 1103515245L + 12345L & 0xffffffffL;
            if (s / 65536 % 4 == 0) change.coughs[at][hole] = true;
        }
        int[] lines = evening(change)[0];
        if (what == 0) return lines[step];
        int off = 0;
        for (int at = 0; at <= step; at++) {
            if (lines[at] != step(at, 3)) off++;
        }
        return off;
    }

    // ---- sheets, as the arrays of Java that they are likened to

    private int found(int number) {
        finding = number;
        return -10 - number;
    }

    private int size(int s) {
        return java.lang.reflect.Array.getLength(sheets[s]);
    }

    private int form(int s) {
        return sheets[s] instanceof byte[] ? 0 : sheets[s] instanceof short[] ? 1 : 2;
    }

    private int item(int s, int i) {
        return java.lang.reflect.Array.getInt(sheets[s], i);
    }

    private void put(int s, int i, int v) {
        if (sheets[s] instanceof byte[]) ((byte[]) sheets[s])[i] = (byte) v;
        else if (sheets[s] instanceof short[]) ((short[]) sheets[s])[i] = (short) v;
        else ((int[]) sheets[s])[i] = v;
    }

    int sheet(int s, int form, int n) {
        if (!in(s, 0, 3) || !in(form, 0, 2) || n > 60) return BAD;
        if (n < 0) return found(5);
        sheets[s] = form == 0 ? new byte[n] : form == 1 ? new short[n] : new int[n];
        return n;
    }

    int lose(int s) {
        if (!in(s, 0, 3)) return BAD;
        if (sheets[s] == null) return found(1);
        int had = size(s);
        sheets[s] = null;
        return had;
    }

    int lay(int s, int form, int i, int v) {
        if (!in(s, 0, 3) || !in(form, 0, 2)) return BAD;
        if (sheets[s] == null) return found(1);
        if (form(s) != form) return found(3);
        if (!in(i, 0, size(s) - 1)) return found(2);
        put(s, i, v);
        return 1;
    }

    int get(int s, int form, int i) {
        if (!in(s, 0, 3) || !in(form, 0, 2)) return Integer.MIN_VALUE;
        int wrong = sheets[s] == null ? 1 : form(s) != form ? 3 : !in(i, 0, size(s) - 1) ? 2 : 0;
        if (wrong != 0) {
            finding = wrong;
            return Integer.MIN_VALUE;
        }
        return item(s, i);
    }

    @SuppressWarnings("SuspiciousSystemArraycopy")
    int copy(int s, int i, int t, int j, int n) {
        if (!in(s, 0, 3) || !in(t, 0, 3)) return BAD;
        if (sheets[s] == null || sheets[t] == null) return found(1);
        try {
            System.arraycopy(sheets[s], i, sheets[t], j, n);
        } catch (ArrayStoreException e) {
            return found(4);
        } catch (IndexOutOfBoundsException e) {
            return found(2);
        }
        return 1;
    }

    int write(int what, int s) {
        if (!in(what, 0, 1) || !in(s, 0, 3)) return BAD;
        if (sheets[s] == null) return found(1);
        int[] row = evening(new Change())[what];
        int n = Math.min(40, size(s));
        for (int i = 0; i < n; i++) put(s, i, row[i]);
        return n;
    }

    int count(int what) {
        if (!in(what, 0, 8)) return BAD;
        return new int[] {play().length(), holes().length, texts[0].length(), texts[1].length(),
            moves.size(), coughs.size(), darks.size(), seen.size(), finding}[what];
    }

    long digest() {
        List<Long> all = new ArrayList<>();
        for (int what = 0; what <= 7; what++) all.add((long) count(what));
        for (int text = 0; text < 2; text++) all.add((long) fault(text));
        for (int it = 0; it < 8; it++) {
            all.addAll(List.of((long) printed(it, 0), (long) printed(it, 1), (long) often(it, 0), (long) often(it, 1),
                slips(5, 0, it, 5, 0), slips(5, 0, it, 5, 1),
                (long) prompt(3, 6, it, 0), (long) prompt(3, 6, it, 1), (long) prompt(3, 6, it, 2)));
        }
        for (int it = 0; it < holes().length; it++) {
            all.addAll(List.of((long) hole(it, 0), (long) hole(it, 1), (long) hole(it, 2), (long) hole(it, 3),
                (long) whispers(3, it), (long) coughed(it), (long) ask(it)));
        }
        for (int it : new int[] {0, 1, 2, 9, 39}) {
            all.addAll(List.of((long) step(it, 0), (long) step(it, 1), (long) step(it, 2), (long) step(it, 3),
                (long) may(3, it), (long) evening(7, it, 0), (long) evening(7, it, 1)));
        }
        all.addAll(List.of((long) drift(0), (long) drift(1), (long) round(), (long) filed()));
        long h = 17;
        for (long each : all) h = 31 * h + each;
        return h;
    }
}
