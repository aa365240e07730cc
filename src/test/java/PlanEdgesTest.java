import java.util.Random;

/** The edges that the document names of plans, of SEEN, of SLIPS and of EVENINGS (promises 19 to 27). */
public final class PlanEdgesTest {
    private static final Check CHECK = new Check("PlanEdgesTest");
    private static final int ALL_STEPS = 0x7fffffff;

    public static void main(String[] args) {
        may();
        prompt();
        promptEdges();
        promptDark();
        mostSeen();
        forget();
        filed();
        filedFarther();
        coughed();
        ask();
        slips();
        slipsSteps();
        slipsLowest();
        evening();
        eveningHoles();
        CHECK.end();
    }

    private static void may() {
        CHECK.says("MAY: LINES in a told STEP (0, 39) by coughs in another one (0, 39), ahead of it, in it, behind it");
        PromptHoles x = Theatre.of("ab", "a9ra");
        int[][] due = {{0, 0, 1}, {0, 1, 1}, {0, 39, 1}, {1, 0, 1}, {1, 1, 3}, {1, 39, 3}, {38, 37, 1}, {38, 38, 3},
            {38, 39, 3}, {39, 0, 1}, {39, 38, 1}, {39, 39, 3}};
        for (int[] d : due) {
            CHECK.due("may(" + d[0] + ", " + d[1] + ")", x.may(d[0], d[1]), d[2]);
        }
        CHECK.says("MAY: as bits (the first LINE, the last)");
        CHECK.due("h, and a behind it", Theatre.of("h", "a9rh").may(1, 39), 1 << 7 | 1);
        CHECK.due("g, and h behind it", Theatre.of("g", "a9rh").may(39, 39), 1 << 6 | 1 << 7);
        CHECK.says("MAY: any set of holes (none of them, the first, the last, all)");
        PromptHoles far = Theatre.of("ab", "j0ra;".repeat(8) + "a9ra");
        CHECK.due("hole 8 is played", far.may(5, 9), 3);
        PromptHoles first = Theatre.of("ab", "a9ra;" + "b9ra;".repeat(7) + "b9ra");
        CHECK.due("hole 0 is played", first.may(5, 9), 3);
        for (int hole = 1; hole < 9; hole++) {
            first.cough(5, hole);
        }
        CHECK.due("the others cough as told", first.may(5, 9), 3);
        first.cough(5, 0);
        CHECK.due("all cough as told, so besides is nothing", first.may(5, 9), 2);
        CHECK.due("without holes", Theatre.of("ab", "").may(5, 9), 2);
        CHECK.due("none hears", Theatre.of("ab", "j0ra").may(5, 9), 2);
        x.dark(5);
        CHECK.due("in the dark none whispers", x.may(5, 9), 1);
        CHECK.due("behind it all is one", x.may(4, 9), 1);
        CHECK.due("ahead of it not yet", x.may(4, 4), 3);
        CHECK.due("without a play", Theatre.of("", "a9ra").may(5, 9), 0);
    }

    private static void prompts(String name, PromptHoles x, int[] a, int least, int last, int many) {
        String call = name + ", prompt(" + a[0] + ", " + a[1] + ", " + a[2];
        CHECK.due(call + ", 0)", x.prompt(a[0], a[1], a[2], 0), least);
        CHECK.due(call + ", 1)", x.prompt(a[0], a[1], a[2], 1), last);
        CHECK.due(call + ", 2)", x.prompt(a[0], a[1], a[2], 2), many);
    }

    private static int[] of(int from, int step, int line) {
        return new int[] {from, step, line};
    }

    private static void prompt() {
        CHECK.says("PROMPT: in a STEP from a told one (not 0) on");
        PromptHoles x = Theatre.of("a", "a9ra");
        CHECK.due("from 0", x.prompt(0, 39, 0, 0), -2);
        prompts("from 1", x, of(1, 39, 7), 8 + 7, 38, 38);
        prompts("from 2", x, of(2, 39, 7), 16 + 7, 38, 37);
        CHECK.says("PROMPT: truly ahead of a told later one");
        prompts("one ahead, the first STEPS", x, of(1, 2, 0), 8, 1, 1);
        prompts("one ahead, the last STEPS", x, of(38, 39, 7), 8 * 38 + 7, 38, 1);
        CHECK.due("not in it", x.prompt(39, 39, 0, 0), -2);
        CHECK.due("not behind it", x.prompt(3, 2, 0, 0), -2);
        CHECK.due("not in STEP 0", x.prompt(0, 0, 0, 0), -2);
        CHECK.due("not in STEP 1, from 0", x.prompt(0, 1, 0, 0), -2);
        CHECK.due("not in STEP 1, from 1", x.prompt(1, 1, 0, 0), -2);
        CHECK.says("PROMPT: NONE: none (how many: 0)");
        PromptHoles y = Theatre.of("ab", "");
        prompts("a line that is nowhere", y, of(1, 39, 2), -1, -1, 0);
        prompts("without a play", Theatre.of("", "a9ra"), of(1, 39, 0), -1, -1, 0);
        prompts("without a play and holes", new PromptHoles(), of(1, 2, 7), -1, -1, 0);
    }

    private static void promptEdges() {
        CHECK.says("PROMPT: the least 8 times the STEP and the LINE (the first LINE, the last)");
        PromptHoles x = Theatre.of("a", "a9ra");
        for (int line = 0; line < 8; line++) {
            prompts("line " + line, x, of(5, 7, line), 40 + line, 6, 2);
        }
        CHECK.says("PROMPT: the last STEP in which one does (not always the last one ahead)");
        // From STEP 6 on he stands where hole 1 alone hears: its own line is played, whatever was.
        PromptHoles y = Theatre.of("abcd", "a9rh;j0lc");
        y.move(5, 9);
        // In 5 hole 1 does not hear yet; in 6 behind b or d comes c, and all else stays.
        prompts("c by b, c and d", y, of(5, 6, 2), 41, 5, 3);
        prompts("b by none in 5", y, of(5, 6, 1), -1, -1, 0);
        PromptHoles gone = Theatre.of("abcd", "a9rh");
        gone.dark(6);
        prompts("dark behind it: only in the dark itself and later", gone, of(3, 8, 3), 51, 7, 2);
        gone.dark(7);
        prompts("dark twice", gone, of(3, 8, 3), 59, 7, 1);
        PromptHoles early = Theatre.of("ab", "a9ra");
        early.dark(7);
        prompts("dark in the later one: no line but the first", early, of(3, 7, 1), -1, -1, 0);
        prompts("dark in the later one: all for the first", early, of(3, 7, 0), 24, 6, 32);
        // Behind c in STEP 2 comes c, but in 3 hole 0 coughs: behind b comes c then.
        PromptHoles cough = Theatre.of("abcd", "a9ra");
        cough.cough(3, 0);
        prompts("a cough behind it", cough, of(2, 3, 2), 17, 2, 1);
        prompts("behind h comes a", cough, of(2, 3, 0), 23, 2, 1);
        prompts("in the STEP of the cough it is played as it is", cough, of(3, 4, 2), 26, 3, 1);
    }

    private static void promptDark() {
        CHECK.says("PROMPT: that is played then whatever else (in the DARK, too)");
        PromptHoles x = Theatre.of("abc", "a9ra");
        x.dark(5);
        x.cough(5, 0);
        for (int line = 0; line < 8; line++) {
            prompts("in the dark, " + line, x, of(5, 6, line), 40 + line, 5, 1);
        }
        CHECK.says("PROMPT: how many do (the most: all LINES in all STEPS from 1 to 38)");
        PromptHoles most = Theatre.of("abc", "a9ra");
        most.dark(39);
        prompts("all", most, of(1, 39, 0), 8, 38, 304);
        prompts("none", most, of(1, 39, 7), -1, -1, 0);
    }

    private static void mostSeen() {
        CHECK.says("SEEN, 8 at most");
        PromptHoles x = Theatre.of("ab", "a9ra");
        for (int i = 1; i <= 7; i++) {
            CHECK.due("seen " + i, x.seen(i, 0), i);
        }
        CHECK.due("filed() of seven", x.filed(), 1);
        CHECK.due("the 8th", x.seen(8, 1), 8);
        CHECK.due("coughed(0), the 8th counts", x.coughed(0), 1 << 8);
        CHECK.due("the 9th", x.seen(9, 7), -4);
        CHECK.due("count(7)", x.count(7), 8);
        CHECK.due("coughed(0), the 9th does not", x.coughed(0), 1 << 8);
        CHECK.says("SEEN: in a STEP (0, 39) a LINE (0, 7) was played");
        PromptHoles y = Theatre.of("h", "a9rh;b0rh");
        y.seen(0, 7);
        CHECK.due("STEP 0, the first line", y.filed(), 3);
        y.seen(39, 7);
        CHECK.due("STEP 39", y.filed(), 3);
        y.seen(39, 0);
        CHECK.due("STEP 39, another line", y.filed(), 0);
        y.forget();
        y.seen(0, 0);
        CHECK.due("STEP 0, another line", y.filed(), 0);
        CHECK.due("STEP 0, another line, coughed(0)", y.coughed(0), 0);
    }

    private static void forget() {
        CHECK.says("22: all SEEN are forgotten: how many (none, one, 8)");
        PromptHoles x = Theatre.of("ab", "a9ra");
        CHECK.due("forget() of none", x.forget(), 0);
        x.seen(1, 7);
        CHECK.due("forget() of one", x.forget(), 1);
        CHECK.due("forget() again", x.forget(), 0);
        for (int i = 0; i < 8; i++) {
            x.seen(i, 7);
        }
        CHECK.due("filed() ahead of it", x.filed(), 0);
        CHECK.due("forget() of 8", x.forget(), 8);
        CHECK.due("count(7)", x.count(7), 0);
        CHECK.due("filed() behind it", x.filed(), 1);
        CHECK.due("seen again", x.seen(0, 0), 1);
    }

    private static void filed() {
        CHECK.says("FILED: as bits (the first hole, the last); nothing SEEN: each");
        CHECK.due("of nine", Theatre.of("ab", Theatre.NINE_HOLES).filed(), 511);
        CHECK.due("of one", Theatre.of("ab", "j0ra").filed(), 1);
        CHECK.due("of none", Theatre.of("ab", "").filed(), 0);
        CHECK.due("of nine without a play", Theatre.of("", Theatre.NINE_HOLES).filed(), 511);
        CHECK.says("FILED: each of which, did it alone HEAR one farther (one, not two; on both sides)");
        // He stands in 4, where none hears; one that did would play the same again.
        PromptHoles x = Theatre.of("ab", "c0ra;c1ra;a2ra;d0ra;j4ra;f0ra;g0ra;j3ra;a3ra");
        x.move(0, 4);
        x.seen(1, 0);
        CHECK.due("they are one farther off than they hear", x.filed(), 1 << 1 | 1 << 3 | 1 << 4 | 1 << 5 | 1 << 8);
        x.forget();
        x.seen(1, 1);
        CHECK.due("the others are two farther off", x.filed(), 1 | 1 << 2 | 1 << 6 | 1 << 7);
    }

    private static void filedFarther() {
        CHECK.says("FILED: one farther (also beyond 9)");
        PromptHoles x = Theatre.of("ab", "j8ra");
        x.seen(1, 0);
        CHECK.due("8 and one hears 9 off", x.filed(), 1);
        CHECK.due("as it is it does not", x.step(1, 0), 1);
        PromptHoles y = Theatre.of("ab", "j9ra");
        y.seen(1, 0);
        CHECK.due("9 and one hears 9 off as before", y.filed(), 1);
        PromptHoles z = Theatre.of("ab", "a9ra;a9na");
        z.seen(39, 0);
        CHECK.due("beyond 9 neither of two changes", z.filed(), 3);
        z.seen(39, 1);
        CHECK.due("beyond 9 it does not hear less", z.filed(), 0);
        CHECK.says("FILED: the nearest one is played, of like ones the least, filed ones as well");
        PromptHoles w = Theatre.of("abcd", "c1rh;c9nh;a0lb");
        w.move(0, 1);
        CHECK.due("it hears without a file", w.step(1, 1), 0);
        w.move(0, 0);
        // In place 0 hole 2 plays b, and then b again; holes 0 and 1 are farther, filed or not.
        w.seen(39, 1);
        CHECK.due("a farther one is not played", w.filed(), 7);
        w.move(0, 3);
        w.forget();
        // Hole 0 hears place 3, hole 2 (3 off, HEARS 0) does not.
        w.seen(5, 0);
        CHECK.due("the same again by hole 0", w.filed(), 7);
        w.move(0, 4);
        w.forget();
        w.seen(1, 0);
        // Two off: filed, hole 0 hears, and of hole 1 and it, as near, it is the least.
        CHECK.due("of like ones the least", w.filed(), 1);
    }

    private static void coughed() {
        CHECK.says("COUGHED: STEPS 0 to 30, as bits (nothing SEEN: each of them)");
        PromptHoles x = Theatre.of("ab", "j0ra;".repeat(8) + "a9ra");
        CHECK.due("coughed(0)", x.coughed(0), ALL_STEPS);
        CHECK.due("coughed(8)", x.coughed(8), ALL_STEPS);
        x.seen(39, 1);
        CHECK.due("1 to 30", x.coughed(8), ALL_STEPS - 1);
        CHECK.due("not by another", x.coughed(0), 0);
        x.forget();
        x.seen(39, 0);
        CHECK.due("in 0 it changes nothing", x.coughed(8), 1);
        CHECK.due("another one's change nothing", x.coughed(0), ALL_STEPS);
        x.forget();
        x.seen(29, 0);
        x.seen(30, 1);
        CHECK.due("30 is the last", x.coughed(8), 1 << 30);
        x.forget();
        x.seen(30, 0);
        x.seen(31, 1);
        CHECK.due("31 is none of them", x.coughed(8), 0);
        x.forget();
        x.seen(0, 0);
        x.seen(1, 1);
        CHECK.due("1 is the first that is heard", x.coughed(8), 1 << 1);
        CHECK.says("COUGHED besides: where it COUGHS as told, all is as told");
        x.forget();
        x.cough(30, 8);
        x.seen(39, 1);
        CHECK.due("told in 30", x.coughed(8), 1 << 30 | 1);
        x.forget();
        x.seen(39, 2);
        CHECK.due("another one besides", x.coughed(8), ALL_STEPS - 1 - (1 << 30));
        CHECK.says("COUGHED: without a PLAY nothing that was SEEN comes out so");
        PromptHoles none = Theatre.of("", "a9ra");
        CHECK.due("nothing seen", none.coughed(0), ALL_STEPS);
        none.seen(0, 0);
        CHECK.due("seen in 0", none.coughed(0), 0);
    }

    private static void ask() {
        CHECK.says("ASK: of like ones the first");
        PromptHoles x = Theatre.of("ab", "a9ra;b9ra");
        CHECK.due("of 31 in 15 as in 16 the same one by 16", x.ask(0), 15);
        CHECK.due("all the same in all STEPS", x.ask(1), 0);
        x.seen(1, 0);
        // 0 and 2 to 30, half of them by STEP 16.
        CHECK.due("STEP 0 is one of these, 1 is not", x.ask(0), 16);
        x.forget();
        x.seen(2, 1);
        CHECK.due("1 or 2", x.ask(0), 1);
        x.seen(1, 0);
        CHECK.due("2 alone: one is one in every STEP", x.ask(0), 0);
        x.seen(1, 1);
        CHECK.due("none: none in every STEP", x.ask(0), 0);
        CHECK.says("ASK: of all these STEPS in which it may have COUGHED, 0 to 30");
        PromptHoles late = Theatre.of("ab", "j0ra");
        late.move(29, 9);
        // Heard from 29 on: in 30 it is played for the first time.
        CHECK.due("the cough in 30 alone changes", late.ask(0), 30);
        late.back(0);
        late.move(30, 9);
        CHECK.due("one in 31 is none of these", late.ask(0), 0);
        late.back(0);
        late.move(28, 9);
        CHECK.due("those in 29 and 30 change", late.ask(0), 30);
        late.move(29, 8);
        // Heard in 29 alone; in 30 he is gone, and what is printed next tells the two still apart.
        CHECK.due("the cough in 29 alone changes", late.ask(0), 29);
        CHECK.says("ASK: the same LINE (the last one, h, as any other)");
        CHECK.due("h and a", Theatre.of("h", "a9ra").ask(0), 15);
        CHECK.due("g and h", Theatre.of("g", "a9ra").ask(0), 15);
        CHECK.due("without a play none", Theatre.of("", "a9ra").ask(0), 0);
        CHECK.says("ASK: of the first hole, of the last");
        PromptHoles nine = Theatre.of("ab", "j0ra;".repeat(8) + "a9ra");
        CHECK.due("the last hole", nine.ask(8), 15);
        CHECK.due("the first hole", nine.ask(0), 0);
    }

    private static void chance(String name, PromptHoles x, int[] a, long above, long below) {
        String call = name + ", slips(" + a[0] + ", " + a[1] + ", " + a[2] + ", " + a[3];
        CHECK.due(call + ", 0)", x.slips(a[0], a[1], a[2], a[3], 0), above);
        CHECK.due(call + ", 1)", x.slips(a[0], a[1], a[2], a[3], 1), below);
    }

    private static int[] of(int c, int hole, int line, int step) {
        return new int[] {c, hole, line, step};
    }

    private static void slips() {
        CHECK.says("SLIPS by c sixteenths (0 to 16): never, by one, by all but one, always");
        PromptHoles x = Theatre.of("h", "j0ra;".repeat(8) + "a9rh");
        int[] above = {0, 1, 1, 3, 1, 5, 3, 7, 1, 9, 5, 11, 3, 13, 7, 15, 1};
        int[] below = {1, 16, 8, 16, 4, 16, 8, 16, 2, 16, 8, 16, 4, 16, 8, 16, 1};
        for (int c = 0; c <= 16; c++) {
            chance("slipped", x, of(c, 8, 0, 1), above[c], below[c]);
            chance("not slipped", x, of(16 - c, 8, 7, 1), above[c], below[c]);
            chance("another hole slips", x, of(c, 0, 7, 1), 1, 1);
        }
        CHECK.says("SLIPS: in place of what is told of it (in each STEP from 1 to the told one)");
        PromptHoles y = Theatre.of("a", "a9ra;b9ra");
        y.cough(1, 0);
        y.cough(9, 0);
        chance("never, though told", y, of(0, 0, 0, 9), 1, 1);
        chance("always, told or not", y, of(16, 0, 1, 9), 1, 1);
        chance("of another one it counts", y, of(8, 1, 2, 9), 1, 1);
        chance("of another one it counts in 8", y, of(8, 1, 1, 8), 1, 1);
        CHECK.says("FRACTIONS (0 by 1)");
        chance("a line that cannot be", y, of(8, 0, 7, 1), 0, 1);
        chance("in the dark another one than the first", dark(9), of(8, 0, 1, 9), 0, 1);
        chance("in the dark the first", dark(9), of(8, 0, 0, 9), 1, 1);
        chance("behind the dark", dark(8), of(8, 0, 1, 9), 1, 2);
    }

    private static PromptHoles dark(int step) {
        PromptHoles x = Theatre.of("a", "a9ra");
        x.dark(step);
        return x;
    }

    private static void slipsSteps() {
        CHECK.says("SLIPS: from 1 to a told one (1 to 9), the chance in the last one");
        PromptHoles x = Theatre.of("a", "a9ra");
        // By halves: so many of all ways have so many coughs, and behind h comes a.
        long[] ways = {1, 0, 0, 0, 0, 0, 0, 0};
        long all = 1;
        for (int step = 1; step <= 9; step++) {
            long[] more = new long[8];
            for (int line = 0; line < 8; line++) {
                more[line] = ways[line] + ways[(line + 7) % 8];
            }
            ways = more;
            all *= 2;
            for (int line = 0; line < 8; line++) {
                long by = divisor(ways[line], all);
                chance("by halves", x, of(8, 0, line, step), ways[line] / by, all / by);
            }
        }
    }

    private static long divisor(long a, long b) {
        return b == 0 ? a : divisor(b, a % b);
    }

    private static void slipsLowest() {
        CHECK.says("FRACTIONS are told in lowest terms (the greatest below: 16 nine times)");
        PromptHoles x = Theatre.of("abcdefgh", "a9yc");
        // Behind c comes d, slipped e; behind all others c, slipped d: so c is only behind others.
        long c = 0;
        long all = 1;
        for (int step = 1; step <= 9; step++) {
            c = 15 * (all - c);
            all *= 16;
        }
        CHECK.due("all ways", all, 68719476736L);
        chance("it stays odd above", x, of(1, 0, 2, 9), c, all);
        CHECK.says("FRACTIONS are told in lowest terms (by 2, by 4, by many)");
        PromptHoles y = Theatre.of("a", "a9ra");
        chance("by 2", y, of(1, 0, 0, 9), 19221679755L, 34359738368L);
        chance("by 4", y, of(1, 0, 7, 9), 2025, 17179869184L);
        chance("by many", y, of(8, 0, 0, 8), 1, 128);
        chance("to one by one", y, of(16, 0, 1, 9), 1, 1);
    }

    private static long lot(long seed) {
        return (seed * 1103515245L + 12345L) & 0xffffffffL;
    }

    private static void evening() {
        CHECK.says("EVENING: in each STEP from 1 on (in STEP 0 no LOT)");
        PromptHoles x = Theatre.of("a", "a9ra");
        for (int seed : new int[] {0, 1, -1, 7, Theatre.LEAST, Theatre.GREATEST, 1 << 16, -(1 << 16)}) {
            CHECK.due("evening(" + seed + ", 0, 0)", x.evening(seed, 0, 0), 0);
            CHECK.due("evening(" + seed + ", 0, 1)", x.evening(seed, 0, 1), 0);
        }
        CHECK.says("LOTS: as ints that wrap; the upper 16 bits as a number from 0 on");
        Random random = new Random(6);
        for (int i = 0; i < 60; i++) {
            int seed = i == 0 ? Theatre.LEAST : i == 1 ? Theatre.GREATEST : i == 2 ? 0 : random.nextInt();
            long s = seed & 0xffffffffL;
            int coughs = 0;
            int off = 0;
            for (int at = 1; at < 40; at++) {
                s = lot(lot(s));
                coughs += s / 65536 % 4 == 0 ? 1 : 0;
                off += coughs % 8 != 0 ? 1 : 0;
            }
            CHECK.due("evening(" + seed + ", 39, 0)", x.evening(seed, 39, 0), coughs % 8);
            CHECK.due("evening(" + seed + ", 39, 1)", x.evening(seed, 39, 1), off);
        }
        CHECK.says("EVENING: no LOTS where there are no holes");
        PromptHoles bare = Theatre.of("abc", "");
        CHECK.due("evening(7, 39, 0)", bare.evening(7, 39, 0), 0);
        CHECK.due("evening(7, 39, 1)", bare.evening(7, 39, 1), 0);
        bare.dark(1);
        CHECK.due("in how many up to it, STEP 39 as well", bare.evening(7, 39, 1), 39);
        CHECK.due("in how many up to STEP 1", bare.evening(7, 1, 1), 1);
    }

    private static void eveningHoles() {
        CHECK.says("LOTS of m: modulo m (1 to 9 holes, the first one, the last)");
        Random random = new Random(7);
        for (int many = 1; many <= 9; many++) {
            for (int near = 0; near < many; near++) {
                StringBuilder holes = new StringBuilder();
                for (int hole = 0; hole < many; hole++) {
                    holes.append(hole == 0 ? "" : ";").append(hole == near ? "a9ra" : "j0ra");
                }
                PromptHoles x = Theatre.of("a", holes.toString());
                for (int i = 0; i < 20; i++) {
                    int seed = random.nextInt();
                    CHECK.due("evening(" + seed + ", 39, 0) of " + holes, x.evening(seed, 39, 0), chanceCoughs(seed, many, near) % 8);
                }
            }
        }
        CHECK.says("EVENING: that hole COUGHS in it, too: besides what is told, and once");
        PromptHoles told = Theatre.of("a", "a9ra");
        for (int step = 1; step <= 12; step++) {
            told.cough(step, 0);
        }
        for (int seed = -30; seed < 30; seed++) {
            CHECK.due("evening(" + seed + ", 12, 0), told in each STEP", told.evening(seed, 12, 0), 12 % 8);
        }
    }

    private static int chanceCoughs(int seed, int many, int near) {
        long s = seed & 0xffffffffL;
        int coughs = 0;
        for (int at = 1; at < 40; at++) {
            s = lot(s);
            boolean it = s / 65536 % many == near;
            s = lot(s);
            coughs += it && s / 65536 % 4 == 0 ? 1 : 0;
        }
        return coughs;
    }
}
