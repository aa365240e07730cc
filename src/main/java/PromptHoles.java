/**
 * A theatre in which what is whispered is played: the play and the holes as texts, what is
 * played step by step, plans, what can be told from what was seen, chances and evenings.
 * The numbered promises stand in DOC.md; words in capitals are its terms.
 */
public final class PromptHoles {
    public static final int NONE = -1, BAD = -2, NOT = -3, FULL = -4;

    private static final int LINES = 8;
    private static final int STEPS = 40;
    private static final int PLACES = 10;
    private static final int MOST_LINES = 24;
    private static final int MOST_HOLES = 9;
    private static final int MOST_HOLE_BYTES = 44;
    private static final int ALL_HOLES = (1 << MOST_HOLES) - 1;

    private static final int COUGHED_STEPS = 31;
    private static final int ROUND_FROM = 16;
    private static final int LONGEST_ROUND = 12;
    private static final int LONGEST_SLIPS = 9;
    private static final int SIXTEENTHS = 16;

    private static final int NULL = 1, INDEX = 2, CAST = 3, STORE = 4, SIZE = 5;

    private static final int[] DIGEST_STEPS = {0, 1, 2, 9, 39};

    private final Row playText = new Row(MOST_LINES);
    private final Row holesText = new Row(MOST_HOLE_BYTES);
    private final Told moves = new Told(12);
    private final Told coughs = new Told(12);
    private final Told darks = new Told(6);
    private final Told sights = new Told(8);
    private final Stage stage = new Stage();
    private boolean stale = true;
    private final Lots lots = new Lots();
    private final Chances chances = new Chances();
    private final int[] rehearsal = new int[STEPS];
    private final int[] tally = new int[STEPS * LINES];
    private final Sheets sheets = new Sheets();
    private int finding = 0;

    public PromptHoles() {
    }

    // ---- the play, holes

    public int type(int text, int b) {
        if (!within(text, 2) || !within(b, 256)) {
            return BAD;
        }
        Row t = textOf(text);
        if (t.isFull()) {
            return FULL;
        }
        t.add(b);
        stale = true;
        return t.size();
    }

    public int wipe(int text) {
        if (!within(text, 2)) {
            return BAD;
        }
        Row t = textOf(text);
        int had = t.size();
        t.clear();
        stale = true;
        return had;
    }

    public int undo(int text) {
        if (!within(text, 2)) {
            return BAD;
        }
        Row t = textOf(text);
        if (t.size() == 0) {
            return NOT;
        }
        t.cut();
        stale = true;
        return t.size();
    }

    public int fault(int text) {
        if (!within(text, 2)) {
            return BAD;
        }
        Stage now = staged();
        return text == 0 ? now.play.fault : now.holes.fault;
    }

    public int line(int place) {
        return within(place, MOST_LINES) ? staged().play.lineIn(place) : BAD;
    }

    public int hole(int hole, int what) {
        Holes holes = staged().holes;
        if (!within(hole, holes.size) || !within(what, 4)) {
            return BAD;
        }
        switch (what) {
            case 0: return holes.placeOf(hole);
            case 1: return holes.hearsOf(hole);
            case 2: return holes.habitOf(hole);
            default: return holes.lineOf(hole);
        }
    }

    public int printed(int line, int what) {
        if (!within(line, LINES) || !within(what, 2)) {
            return BAD;
        }
        Play play = staged().play;
        return what == 0 ? play.nextTo(line) : play.aheadOf(line);
    }

    public int move(int step, int place) {
        if (!within(step, STEPS) || !within(place, PLACES)) {
            return BAD;
        }
        stale = true;
        return tell(moves, step, place);
    }

    public int cough(int step, int hole) {
        if (!within(step, STEPS) || !within(hole, MOST_HOLES)) {
            return BAD;
        }
        stale = true;
        return tell(coughs, step, hole);
    }

    public int dark(int step) {
        if (!within(step, STEPS)) {
            return BAD;
        }
        stale = true;
        return tell(darks, step, 0);
    }

    public int back(int what) {
        if (!within(what, 3)) {
            return BAD;
        }
        Told told = what == 0 ? moves : what == 1 ? coughs : darks;
        if (told.size() == 0) {
            return NOT;
        }
        told.cut();
        stale = true;
        return told.size();
    }

    public int read(int s) {
        if (!within(s, Sheets.MANY)) {
            return BAD;
        }
        if (sheets.isLost(s)) {
            return found(NULL);
        }
        int taken = 0;
        for (int i = 0; i + 1 < sheets.sizeOf(s); i += 2) {
            if (move(sheets.item(s, i), sheets.item(s, i + 1)) < 0) {
                break;
            }
            taken++;
        }
        return taken;
    }

    // ---- steps

    public int step(int step, int what) {
        if (!within(step, STEPS) || !within(what, 4)) {
            return BAD;
        }
        Stage now = staged();
        switch (what) {
            case 0: return now.playedIn(step);
            case 1: return now.byIn(step);
            case 2: return now.whereIn(step);
            default: return now.play.printedIn(step);
        }
    }

    public int whispers(int step, int hole) {
        Stage now = staged();
        if (!within(step, STEPS) || !within(hole, now.holes.size)) {
            return BAD;
        }
        if (!now.hears(hole, step, 0)) {
            return NONE;
        }
        return now.whispered(hole, now.playedIn(step - 1), now.coughsIn(step));
    }

    public int drift(int what) {
        if (!within(what, 2)) {
            return BAD;
        }
        Stage now = staged();
        int first = NONE;
        int many = 0;
        for (int step = STEPS - 1; step >= 0; step--) {
            if (now.playedIn(step) != now.play.printedIn(step)) {
                first = step;
                many++;
            }
        }
        return many == 0 ? NONE : what == 0 ? first : many;
    }

    public int round() {
        Stage now = staged();
        for (int length = 1; length <= LONGEST_ROUND; length++) {
            if (goesRound(now, length)) {
                return length;
            }
        }
        return NONE;
    }

    public int often(int line, int what) {
        if (!within(line, LINES) || !within(what, 2)) {
            return BAD;
        }
        Stage now = staged();
        int many = 0;
        int last = NONE;
        for (int step = 0; step < STEPS; step++) {
            if (now.playedIn(step) == line) {
                many++;
                last = step;
            }
        }
        return what == 0 ? many : last;
    }

    // ---- plans

    public int may(int coughs, int step) {
        if (!within(coughs, STEPS) || !within(step, STEPS)) {
            return BAD;
        }
        Stage now = staged();
        // A cough changes what a hole whispers, not whether it does: the hole that is played
        // is the same for every set, so no cough at all and all holes' coughs tell the rest.
        now.rehearse(coughs, ALL_HOLES, rehearsal);
        return bitOf(now.playedIn(step)) | bitOf(rehearsal[step]);
    }

    public int prompt(int from, int step, int line, int what) {
        if (from < 1 || !within(step, STEPS) || from >= step) {
            return BAD;
        }
        if (!within(line, LINES) || !within(what, 3)) {
            return BAD;
        }
        Stage now = staged();
        int least = NONE;
        int last = NONE;
        int many = 0;
        int leading = bitOf(line);
        for (int at = step - 1; at >= from; at--) {
            leading = now.leadingInto(at + 1, leading);
            if (leading != 0) {
                least = LINES * at + lowestBit(leading);
                last = Math.max(last, at);
                many += Integer.bitCount(leading);
            }
        }
        return what == 0 ? least : what == 1 ? last : many;
    }

    // ---- seen, slips, evenings

    public int seen(int step, int line) {
        if (!within(step, STEPS) || !within(line, LINES)) {
            return BAD;
        }
        return tell(sights, step, line);
    }

    public int forget() {
        int had = sights.size();
        sights.clear();
        return had;
    }

    public int filed() {
        Stage now = staged();
        int bits = 0;
        for (int hole = 0; hole < now.holes.size; hole++) {
            now.rehearseFiled(hole, rehearsal);
            if (allSeenIn(rehearsal)) {
                bits |= 1 << hole;
            }
        }
        return bits;
    }

    public int coughed(int hole) {
        Stage now = staged();
        if (!within(hole, now.holes.size)) {
            return BAD;
        }
        int bits = 0;
        for (int at = 0; at < COUGHED_STEPS; at++) {
            now.rehearse(at, 1 << hole, rehearsal);
            if (allSeenIn(rehearsal)) {
                bits |= 1 << at;
            }
        }
        return bits;
    }

    public int ask(int hole) {
        Stage now = staged();
        if (!within(hole, now.holes.size)) {
            return BAD;
        }
        for (int i = 0; i < tally.length; i++) {
            tally[i] = 0;
        }
        for (int at = 0; at < COUGHED_STEPS; at++) {
            now.rehearse(at, 1 << hole, rehearsal);
            if (allSeenIn(rehearsal)) {
                tallyRehearsal();
            }
        }
        int best = 0;
        for (int step = 1; step < STEPS; step++) {
            if (greatestTally(step) < greatestTally(best)) {
                best = step;
            }
        }
        return best;
    }

    public long slips(int c, int hole, int line, int step, int what) {
        Stage now = staged();
        if (!within(c, SIXTEENTHS + 1) || !within(hole, now.holes.size) || !within(line, LINES)) {
            return Long.MIN_VALUE - BAD;
        }
        if (step < 1 || step > LONGEST_SLIPS || !within(what, 2)) {
            return Long.MIN_VALUE - BAD;
        }
        chances.begin(now.playedIn(0));
        for (int at = 1; at <= step; at++) {
            chances.goOn(now, at, hole, c);
        }
        chances.reduce(line);
        return what == 0 ? chances.above : chances.below;
    }

    public int evening(int seed, int step, int what) {
        if (!within(step, STEPS) || !within(what, 2)) {
            return BAD;
        }
        Stage now = staged();
        lots.begin(seed);
        int line = now.playedIn(0);
        int off = 0;
        for (int at = 1; at <= step; at++) {
            int coughing = now.coughsIn(at) | lots.drawCough(now.holes.size);
            line = now.follow(at, now.byIn(at), line, coughing);
            if (line != now.play.printedIn(at)) {
                off++;
            }
        }
        return what == 0 ? line : off;
    }

    // ---- sheets

    public int sheet(int s, int form, int n) {
        if (!within(s, Sheets.MANY) || !within(form, Sheets.FORMS) || n > Sheets.MOST) {
            return BAD;
        }
        if (n < 0) {
            return found(SIZE);
        }
        sheets.renew(s, form, n);
        return n;
    }

    public int lose(int s) {
        if (!within(s, Sheets.MANY)) {
            return BAD;
        }
        if (sheets.isLost(s)) {
            return found(NULL);
        }
        int had = sheets.sizeOf(s);
        sheets.tear(s);
        return had;
    }

    public int lay(int s, int form, int i, int v) {
        if (!within(s, Sheets.MANY) || !within(form, Sheets.FORMS)) {
            return BAD;
        }
        int wrong = sheets.wrongWith(s, form, i);
        if (wrong != 0) {
            return found(wrong);
        }
        sheets.put(s, i, v);
        return 1;
    }

    public int get(int s, int form, int i) {
        if (!within(s, Sheets.MANY) || !within(form, Sheets.FORMS)) {
            return Integer.MIN_VALUE;
        }
        int wrong = sheets.wrongWith(s, form, i);
        if (wrong != 0) {
            finding = wrong;
            return Integer.MIN_VALUE;
        }
        return sheets.item(s, i);
    }

    public int copy(int s, int i, int t, int j, int n) {
        if (!within(s, Sheets.MANY) || !within(t, Sheets.MANY)) {
            return BAD;
        }
        if (sheets.isLost(s) || sheets.isLost(t)) {
            return found(NULL);
        }
        if (sheets.formOf(s) != sheets.formOf(t)) {
            return found(STORE);
        }
        if (!sheets.hasRun(s, i, n) || !sheets.hasRun(t, j, n)) {
            return found(INDEX);
        }
        sheets.carry(s, i, t, j, n);
        return 1;
    }

    public int write(int what, int s) {
        if (!within(what, 2) || !within(s, Sheets.MANY)) {
            return BAD;
        }
        if (sheets.isLost(s)) {
            return found(NULL);
        }
        Stage now = staged();
        int many = Math.min(sheets.sizeOf(s), STEPS);
        for (int step = 0; step < many; step++) {
            sheets.put(s, step, what == 0 ? now.playedIn(step) : now.byIn(step));
        }
        return many;
    }

    public int count(int what) {
        switch (what) {
            case 0: return staged().play.length;
            case 1: return staged().holes.size;
            case 2: return playText.size();
            case 3: return holesText.size();
            case 4: return moves.size();
            case 5: return coughs.size();
            case 6: return darks.size();
            case 7: return sights.size();
            case 8: return finding;
            default: return BAD;
        }
    }

    public long digest() {
        long h = 17;
        for (int what = 0; what < 8; what++) {
            h = 31 * h + count(what);
        }
        h = 31 * h + fault(0);
        h = 31 * h + fault(1);
        for (int line = 0; line < LINES; line++) {
            h = mixLine(h, line);
        }
        int holes = count(1);
        for (int hole = 0; hole < holes; hole++) {
            h = mixHole(h, hole);
        }
        for (int i = 0; i < DIGEST_STEPS.length; i++) {
            h = mixStep(h, DIGEST_STEPS[i]);
        }
        h = 31 * h + drift(0);
        h = 31 * h + drift(1);
        h = 31 * h + round();
        return 31 * h + filed();
    }

    // ---- helpers of the calls

    private static boolean within(int number, int many) {
        return number >= 0 && number < many;
    }

    private static int bitOf(int line) {
        return within(line, LINES) ? 1 << line : 0;
    }

    private static int lowestBit(int bits) {
        for (int line = 0; line < LINES; line++) {
            if ((bits & bitOf(line)) != 0) {
                return line;
            }
        }
        return NONE;
    }

    private Row textOf(int text) {
        return text == 0 ? playText : holesText;
    }

    /** What follows from the texts and from what is told, worked out anew if these changed. */
    private Stage staged() {
        if (stale) {
            stage.play.parse(playText);
            stage.holes.parse(holesText);
            stage.holes.think(stage.play);
            stage.set(moves, coughs, darks);
            stage.perform();
            stale = false;
        }
        return stage;
    }

    private static int tell(Told told, int step, int value) {
        if (told.isFull()) {
            return FULL;
        }
        told.add(step, value);
        return told.size();
    }

    private int found(int number) {
        finding = number;
        return -10 - number;
    }

    private static boolean goesRound(Stage now, int length) {
        for (int step = ROUND_FROM; step + length < STEPS; step++) {
            if (now.playedIn(step) != now.playedIn(step + length)) {
                return false;
            }
        }
        return true;
    }

    private boolean allSeenIn(int[] row) {
        for (int i = 0; i < sights.size(); i++) {
            int step = sights.stepAt(i);
            if (!within(step, row.length) || row[step] != sights.valueAt(i)) {
                return false;
            }
        }
        return true;
    }

    private void tallyRehearsal() {
        for (int step = 0; step < STEPS; step++) {
            int line = rehearsal[step];
            if (within(line, LINES)) {
                tally[step * LINES + line]++;
            }
        }
    }

    private int greatestTally(int step) {
        int greatest = 0;
        for (int line = 0; line < LINES; line++) {
            greatest = Math.max(greatest, tally[step * LINES + line]);
        }
        return greatest;
    }

    private long mixLine(long start, int line) {
        long h = start;
        h = 31 * h + printed(line, 0);
        h = 31 * h + printed(line, 1);
        h = 31 * h + often(line, 0);
        h = 31 * h + often(line, 1);
        h = 31 * h + slips(5, 0, line, 5, 0);
        h = 31 * h + slips(5, 0, line, 5, 1);
        for (int what = 0; what < 3; what++) {
            h = 31 * h + prompt(3, 6, line, what);
        }
        return h;
    }

    private long mixHole(long start, int hole) {
        long h = start;
        for (int what = 0; what < 4; what++) {
            h = 31 * h + hole(hole, what);
        }
        h = 31 * h + whispers(3, hole);
        h = 31 * h + coughed(hole);
        return 31 * h + ask(hole);
    }

    private long mixStep(long start, int step) {
        long h = start;
        for (int what = 0; what < 4; what++) {
            h = 31 * h + step(step, what);
        }
        h = 31 * h + may(3, step);
        h = 31 * h + evening(7, step, 0);
        return 31 * h + evening(7, step, 1);
    }

    /** Numbers, one behind the other, up to a limit: a text's bytes, a half of what is told. */
    private static final class Row {
        private final int[] items;
        private int size = 0;

        Row(int most) {
            items = new int[Math.max(most, 0)];
        }

        int size() {
            return size;
        }

        boolean isFull() {
            return size >= items.length;
        }

        int at(int place) {
            return place >= 0 && place < items.length ? items[place] : NONE;
        }

        void add(int item) {
            if (size >= 0 && size < items.length) {
                items[size] = item;
                size++;
            }
        }

        void cut() {
            size = Math.max(size - 1, 0);
        }

        void clear() {
            size = 0;
        }
    }

    /** What is told of STEPS, in the order in which it was told, up to a limit. */
    private static final class Told {
        private final Row steps;
        private final Row values;

        Told(int most) {
            steps = new Row(most);
            values = new Row(most);
        }

        int size() {
            return steps.size();
        }

        boolean isFull() {
            return steps.isFull();
        }

        int stepAt(int i) {
            return steps.at(i);
        }

        int valueAt(int i) {
            return values.at(i);
        }

        void add(int step, int value) {
            steps.add(step);
            values.add(value);
        }

        void cut() {
            steps.cut();
            values.cut();
        }

        void clear() {
            steps.clear();
            values.clear();
        }
    }

    /** THE PLAY as its text tells it; without one every answer is NONE. */
    private static final class Play {
        private final int[] lines = new int[MOST_LINES];
        private final int[] next = new int[LINES];
        private final int[] ahead = new int[LINES];
        private int length = 0;
        private int fault = NONE;

        void parse(Row text) {
            fault = faultOf(text);
            length = fault == NONE ? Math.min(text.size(), MOST_LINES) : 0;
            for (int place = 0; place < length; place++) {
                lines[place] = text.at(place) - 'a';
            }
            for (int line = 0; line < LINES; line++) {
                next[line] = lineIn(0);
                ahead[line] = lineIn(0);
            }
            // From the end on, so that of a line's places the first one stays.
            for (int place = length - 1; place >= 0; place--) {
                int line = lineIn(place);
                if (within(line, LINES)) {
                    next[line] = lineIn(place == length - 1 ? 0 : place + 1);
                    ahead[line] = lineIn(place == 0 ? length - 1 : place - 1);
                }
            }
        }

        private static int faultOf(Row text) {
            for (int place = 0; place < text.size(); place++) {
                int b = text.at(place);
                if (b < 'a' || b > 'h') {
                    return place;
                }
            }
            return NONE;
        }

        int lineIn(int place) {
            return place >= 0 && place < length && place < MOST_LINES ? lines[place] : NONE;
        }

        int nextTo(int line) {
            return line >= 0 && line < LINES ? next[line] : NONE;
        }

        int aheadOf(int line) {
            return line >= 0 && line < LINES ? ahead[line] : NONE;
        }

        int printedIn(int step) {
            return length > 0 ? lineIn(step % length) : NONE;
        }
    }

    /** The HOLES as their text tells them. */
    private static final class Holes {
        /** The bytes of a hole, with the ; behind it. */
        private static final int STRIDE = 5;

        private final int[] places = new int[MOST_HOLES];
        private final int[] reaches = new int[MOST_HOLES];
        private final int[] habits = new int[MOST_HOLES];
        private final int[] lines = new int[MOST_HOLES];
        /** What each hole thinks comes behind each LINE. */
        private final int[] thoughts = new int[MOST_HOLES * LINES];
        private int size = 0;
        private int fault = NONE;

        void parse(Row text) {
            fault = faultOf(text);
            size = fault == NONE ? Math.min((text.size() + 1) / STRIDE, MOST_HOLES) : 0;
            for (int hole = 0; hole < size; hole++) {
                int from = hole * STRIDE;
                places[hole] = text.at(from) - 'a';
                reaches[hole] = text.at(from + 1) - '0';
                habits[hole] = habitBy(text.at(from + 2));
                lines[hole] = text.at(from + 3) - 'a';
            }
        }

        private static int faultOf(Row text) {
            int length = text.size();
            for (int place = 0; place < length; place++) {
                if (place >= MOST_HOLES * STRIDE || !goesOn(place % STRIDE, text.at(place))) {
                    return place;
                }
            }
            return length == 0 || length % STRIDE == STRIDE - 1 ? NONE : length;
        }

        private static boolean goesOn(int place, int b) {
            switch (place) {
                case 0: return b >= 'a' && b <= 'j';
                case 1: return b >= '0' && b <= '9';
                case 2: return habitBy(b) != NONE;
                case 3: return b >= 'a' && b <= 'h';
                default: return b == ';';
            }
        }

        private static int habitBy(int b) {
            switch (b) {
                case 'n': return 0;
                case 'r': return 1;
                case 'y': return 2;
                case 'l': return 3;
                default: return NONE;
            }
        }

        int placeOf(int hole) {
            return hole >= 0 && hole < MOST_HOLES ? places[hole] : NONE;
        }

        int hearsOf(int hole) {
            return hole >= 0 && hole < MOST_HOLES ? reaches[hole] : NONE;
        }

        int habitOf(int hole) {
            return hole >= 0 && hole < MOST_HOLES ? habits[hole] : NONE;
        }

        int lineOf(int hole) {
            return hole >= 0 && hole < MOST_HOLES ? lines[hole] : NONE;
        }

        void think(Play play) {
            for (int hole = 0; hole < MOST_HOLES; hole++) {
                for (int heard = 0; heard < LINES; heard++) {
                    int next = play.nextTo(heard);
                    int ahead = play.aheadOf(heard);
                    thoughts[hole * LINES + heard] = byHabit(hole, heard, next, ahead);
                }
            }
        }

        private int byHabit(int hole, int heard, int next, int ahead) {
            int own = lineOf(hole);
            switch (habitOf(hole)) {
                case 0: return next;
                case 1: return heard;
                case 2: return heard == own ? next : own;
                default: return next == own || ahead == own ? own : heard;
            }
        }
    }

    /** What is played, STEP by STEP. */
    private static final class Stage {
        private final Play play = new Play();
        private final Holes holes = new Holes();
        private final int[] where = new int[STEPS];
        private final int[] coughing = new int[STEPS];
        /** STEP 0 and the DARK: the first LINE is played, and no hole WHISPERS. */
        private final boolean[] opening = new boolean[STEPS];
        private final int[] by = new int[STEPS];
        private final int[] played = new int[STEPS];

        void set(Told moves, Told coughs, Told darks) {
            for (int step = 0; step < STEPS; step++) {
                where[step] = NONE;
                coughing[step] = 0;
                opening[step] = step == 0;
            }
            for (int i = 0; i < moves.size(); i++) {
                int step = moves.stepAt(i);
                if (within(step, STEPS)) {
                    where[step] = moves.valueAt(i);
                }
            }
            for (int i = 0; i < coughs.size(); i++) {
                int step = coughs.stepAt(i);
                if (within(step, STEPS)) {
                    coughing[step] |= 1 << coughs.valueAt(i);
                }
            }
            for (int i = 0; i < darks.size(); i++) {
                int step = darks.stepAt(i);
                if (within(step, STEPS)) {
                    opening[step] = true;
                }
            }
        }

        void perform() {
            int stands = 0;
            for (int step = 0; step < STEPS; step++) {
                if (where[step] != NONE) {
                    stands = where[step];
                }
                where[step] = stands;
            }
            int line = NONE;
            for (int step = 0; step < STEPS; step++) {
                by[step] = nearest(step, NONE);
                line = follow(step, by[step], line, coughing[step]);
                played[step] = line;
            }
        }

        int playedIn(int step) {
            return step >= 0 && step < STEPS ? played[step] : NONE;
        }

        int byIn(int step) {
            return step >= 0 && step < STEPS ? by[step] : NONE;
        }

        int whereIn(int step) {
            return step >= 0 && step < STEPS ? where[step] : NONE;
        }

        /** The holes that COUGH in a STEP as told, as bits. */
        int coughsIn(int step) {
            return step >= 0 && step < STEPS ? coughing[step] : 0;
        }

        /** Whether a hole, did it HEAR so much farther, HEARS what was played ahead of a STEP. */
        boolean hears(int hole, int step, int farther) {
            if (step < 1 || step >= STEPS || opening[step] || play.length == 0) {
                return false;
            }
            if (hole < 0 || hole >= MOST_HOLES) {
                return false;
            }
            int way = Math.abs(holes.places[hole] - where[step - 1]);
            return way <= holes.reaches[hole] + farther;
        }

        /** The hole that is played in a STEP, did the filed one HEAR one farther; or NONE. */
        private int nearest(int step, int filed) {
            int nearest = NONE;
            int least = PLACES;
            int stands = whereIn(step);
            for (int hole = 0; hole < holes.size; hole++) {
                int way = Math.abs(holes.placeOf(hole) - stands);
                if (way < least && hears(hole, step, hole == filed ? 1 : 0)) {
                    nearest = hole;
                    least = way;
                }
            }
            return nearest;
        }

        int whispered(int hole, int heard, int coughs) {
            if (hole < 0 || hole >= MOST_HOLES || heard < 0 || heard >= LINES) {
                return NONE;
            }
            int line = holes.thoughts[hole * LINES + heard];
            return (coughs >> hole & 1) == 0 ? line : (line + 1) % LINES;
        }

        /** The LINE that is played in a STEP, by a hole (or NONE), behind a LINE. */
        int follow(int step, int hole, int heard, int coughs) {
            if (step < 0 || step >= STEPS || opening[step]) {
                return play.lineIn(0);
            }
            return hole == NONE ? play.nextTo(heard) : whispered(hole, heard, coughs);
        }

        /** Plays all STEPS to a row, with holes that COUGH in one STEP besides. */
        void rehearse(int coughStep, int extra, int[] row) {
            // A cough of a hole that is not played, or that coughs anyway, leaves all as it is.
            int hole = byIn(coughStep);
            int more = extra & ~coughsIn(coughStep);
            int first = hole != NONE && (more >> hole & 1) != 0 ? coughStep : STEPS;
            int line = NONE;
            for (int step = 0; step < STEPS && step < row.length; step++) {
                int coughs = step == first ? coughing[step] | extra : coughing[step];
                line = step < first ? played[step] : follow(step, by[step], line, coughs);
                row[step] = line;
            }
        }

        /** Plays all STEPS to a row, with a hole that HEARS one farther. */
        void rehearseFiled(int filed, int[] row) {
            int line = NONE;
            for (int step = 0; step < STEPS && step < row.length; step++) {
                line = follow(step, nearest(step, filed), line, coughing[step]);
                row[step] = line;
            }
        }

        /** The LINES behind which one of the wanted ones is played in a STEP, all as bits. */
        int leadingInto(int step, int wanted) {
            int hole = byIn(step);
            int coughs = coughsIn(step);
            int bits = 0;
            for (int line = 0; line < LINES; line++) {
                if ((bitOf(follow(step, hole, line, coughs)) & wanted) != 0) {
                    bits |= 1 << line;
                }
            }
            return bits;
        }
    }

    /** LOTS by a SEED. */
    private static final class Lots {
        private int seed = 0;

        void begin(int start) {
            seed = start;
        }

        private int draw(int many) {
            seed = 1103515245 * seed + 12345;
            return many > 0 ? (seed >>> 16) % many : 0;
        }

        /** The hole that COUGHS by chance in the next STEP, as a bit; 0: none. */
        int drawCough(int holes) {
            if (holes <= 0) {
                return 0;
            }
            int hole = draw(holes);
            return draw(4) == 0 ? 1 << hole : 0;
        }
    }

    /** How often, of all ways in which a hole may slip, each LINE is played; then a FRACTION. */
    private static final class Chances {
        private final long[] ways = new long[LINES];
        private final long[] before = new long[LINES];
        private long all = 1;
        private long above = 0;
        private long below = 1;

        void begin(int first) {
            for (int line = 0; line < LINES; line++) {
                ways[line] = line == first ? 1 : 0;
            }
            all = 1;
        }

        void goOn(Stage now, int step, int hole, int c) {
            for (int line = 0; line < LINES; line++) {
                before[line] = ways[line];
                ways[line] = 0;
            }
            int bit = 1 << hole;
            int told = now.coughsIn(step) & ~bit;
            int by = now.byIn(step);
            for (int line = 0; line < LINES; line++) {
                if (before[line] != 0) {
                    put(now.follow(step, by, line, told), before[line] * (SIXTEENTHS - c));
                    put(now.follow(step, by, line, told | bit), before[line] * c);
                }
            }
            all *= SIXTEENTHS;
        }

        private void put(int line, long more) {
            if (within(line, LINES)) {
                ways[line] += more;
            }
        }

        /** The chance of a LINE in lowest terms: all ways are a power of 2, so is what divides. */
        void reduce(int line) {
            above = within(line, LINES) ? ways[line] : 0;
            below = above == 0 ? 1 : all;
            for (int i = 0; i < 64 && (above & 1) == 0 && (below & 1) == 0; i++) {
                above /= 2;
                below /= 2;
            }
        }
    }

    /** The SHEETS: each LOST or a row of a FORM. */
    private static final class Sheets {
        private static final int MANY = 4;
        private static final int FORMS = 3;
        private static final int MOST = 60;
        private static final int LOST = -1;

        private final int[] forms = {LOST, LOST, LOST, LOST};
        private final int[] sizes = new int[MANY];
        private final int[] items = new int[MANY * MOST];

        boolean isLost(int s) {
            return formOf(s) == LOST;
        }

        int formOf(int s) {
            return within(s, MANY) ? forms[s] : LOST;
        }

        int sizeOf(int s) {
            return within(s, MANY) ? sizes[s] : 0;
        }

        int item(int s, int i) {
            return within(s, MANY) && within(i, MOST) ? items[s * MOST + i] : 0;
        }

        /** Puts the lowest bits of a number that an item of the SHEET's FORM has. */
        void put(int s, int i, int v) {
            if (within(s, MANY) && within(i, MOST)) {
                items[s * MOST + i] = forms[s] == 0 ? (byte) v : forms[s] == 1 ? (short) v : v;
            }
        }

        void renew(int s, int form, int n) {
            if (within(s, MANY)) {
                forms[s] = form;
                sizes[s] = n;
                for (int i = 0; i < MOST; i++) {
                    items[s * MOST + i] = 0;
                }
            }
        }

        void tear(int s) {
            if (within(s, MANY)) {
                forms[s] = LOST;
                sizes[s] = 0;
            }
        }

        /** The number of the FINDING that an item, treated as of a FORM, gives; 0: none. */
        int wrongWith(int s, int form, int i) {
            if (isLost(s)) {
                return NULL;
            }
            if (formOf(s) != form) {
                return CAST;
            }
            return within(i, sizeOf(s)) ? 0 : INDEX;
        }

        /** Whether a SHEET has n items from i on. */
        boolean hasRun(int s, int i, int n) {
            return i >= 0 && n >= 0 && n <= sizeOf(s) - i;
        }

        /** Behind hasRun of both: item by item, from the side on which none is lost. */
        void carry(int s, int i, int t, int j, int n) {
            boolean upward = s != t || j <= i;
            for (int k = 0; k < n; k++) {
                int at = upward ? k : n - 1 - k;
                put(t, j + at, item(s, i + at));
            }
        }
    }
}
