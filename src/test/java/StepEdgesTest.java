/** The edges that the document names of what is told and of what is played (promises 9 to 18). */
public final class StepEdgesTest {
    private static final Check CHECK = new Check("StepEdgesTest");
    /** Only hole 8 stands where the actor is; the others hear nothing there. */
    private static final String EIGHT_FAR = "j0ra;".repeat(8);

    public static void main(String[] args) {
        mostMoves();
        moves();
        mostCoughs();
        coughs();
        behindH();
        mostDark();
        dark();
        back();
        read();
        readUntil();
        hears();
        hearsThen();
        nearest();
        noneWhispers();
        youth();
        beside();
        printed();
        whispers();
        drift();
        round();
        roundFrom();
        often();
        CHECK.end();
    }

    private static void played(String name, PromptHoles x, String head, String tail) {
        CHECK.same(name + ", played", Theatre.played(x), Theatre.steps(head, tail));
    }

    private static void playedBy(String name, PromptHoles x, String head, String tail) {
        CHECK.same(name + ", by which hole", Theatre.playedBy(x), Theatre.steps(head, tail));
    }

    private static void stands(String name, PromptHoles x, String head, String tail) {
        CHECK.same(name + ", stands", Theatre.stands(x), Theatre.steps(head, tail));
    }

    private static void mostMoves() {
        CHECK.says("MOVES, 12 at most");
        PromptHoles x = new PromptHoles();
        for (int i = 0; i < 12; i++) {
            CHECK.due("move " + (i + 1), x.move(i, (i + 1) % 10), i + 1);
        }
        CHECK.due("the 13th", x.move(13, 7), -4);
        CHECK.due("count(4)", x.count(4), 12);
        stands("the 12th counts, not the 13th", x, "12345678901", "2");
        CHECK.due("back(0)", x.back(0), 11);
        stands("behind back(0)", x, "12345678901", "1");
        CHECK.due("the 12th again", x.move(13, 7), 12);
        stands("another 12th", x, "1234567890111", "7");
        CHECK.due("the 13th again", x.move(14, 8), -4);
    }

    private static void moves() {
        CHECK.says("MOVES: from a STEP on (the first STEP, the last) in a PLACE (0 to 9)");
        PromptHoles x = new PromptHoles();
        x.move(39, 9);
        stands("from 39 on", x, "0".repeat(39), "9");
        x.move(0, 1);
        stands("from 0 on", x, "1".repeat(39), "9");
        x.move(1, 9);
        x.move(2, 0);
        stands("PLACE 9, PLACE 0", x, "190" + "0".repeat(36), "9");
        CHECK.says("MOVES: of all of STEPS up to one that of the latest STEP counts");
        PromptHoles y = new PromptHoles();
        y.move(20, 5);
        y.move(10, 3);
        stands("the later STEP told first", y, "0".repeat(10) + "3".repeat(10), "5");
        y.move(19, 8);
        stands("up to one", y, "0".repeat(10) + "3".repeat(9) + "8", "5");
        CHECK.says("MOVES: of like ones the last told");
        y.move(20, 6);
        stands("two of a STEP", y, "0".repeat(10) + "3".repeat(9) + "8", "6");
        y.move(10, 4);
        y.move(20, 2);
        stands("three of a STEP", y, "0".repeat(10) + "4".repeat(9) + "8", "2");
        y.back(0);
        stands("the last told undone", y, "0".repeat(10) + "4".repeat(9) + "8", "6");
        CHECK.says("MOVES: else he stands in PLACE 0");
        PromptHoles z = new PromptHoles();
        stands("none told", z, "", "0");
        z.move(1, 5);
        stands("none up to STEP 0", z, "0", "5");
    }

    private static void mostCoughs() {
        CHECK.says("COUGHS, 12 at most");
        PromptHoles x = Theatre.of("a", "a9ra");
        for (int i = 1; i <= 12; i++) {
            CHECK.due("cough " + i, x.cough(i, 0), i);
        }
        CHECK.due("the 13th", x.cough(13, 0), -4);
        CHECK.due("count(5)", x.count(5), 12);
        played("the 12th counts, not the 13th", x, "abcdefghabcd", "e");
        CHECK.due("back(1)", x.back(1), 11);
        played("behind back(1)", x, "abcdefghabc", "d");
        CHECK.due("the 12th again", x.cough(39, 0), 12);
        played("another 12th", x, "abcdefghabc" + "d".repeat(28), "e");
        CHECK.due("the 13th again", x.cough(14, 0), -4);
    }

    private static void coughs() {
        CHECK.says("COUGHS: in a STEP (the first one that is whispered, the last) a hole (0 to 8)");
        PromptHoles x = Theatre.of("a", EIGHT_FAR + "a9ra");
        x.cough(39, 8);
        played("hole 8 in 39", x, "a".repeat(39), "b");
        x.cough(1, 8);
        played("hole 8 in 1", x, "a" + "b".repeat(38), "c");
        x.cough(2, 0);
        x.cough(3, 7);
        played("other holes", x, "a" + "b".repeat(38), "c");
        PromptHoles y = Theatre.of("a", "a9ra;" + EIGHT_FAR.substring(0, 39));
        y.cough(1, 0);
        y.cough(2, 8);
        played("hole 0 in 1", y, "a", "b");
        CHECK.says("COUGHS: in STEP 0 no hole WHISPERS");
        PromptHoles z = Theatre.of("a", "a9ra");
        CHECK.due("cough(0, 0)", z.cough(0, 0), 1);
        played("a cough in 0", z, "", "a");
        CHECK.says("COUGHS: the same one told twice is one that COUGHS in this STEP");
        z.cough(1, 0);
        z.cough(1, 0);
        CHECK.due("count(5)", z.count(5), 3);
        played("told twice", z, "a", "b");
        z.back(1);
        played("one undone", z, "a", "b");
        CHECK.says("COUGHS: a hole (0 to 8) that is not there may be told of, and coughs when it is");
        PromptHoles later = Theatre.of("a", "");
        CHECK.due("cough(1, 0) without holes", later.cough(1, 0), 1);
        played("without holes", later, "", "a");
        Theatre.typeAll(later, 1, "a9ra");
        played("with its hole", later, "a", "b");
    }

    private static void behindH() {
        CHECK.says("behind h comes a");
        for (int line = 0; line < 8; line++) {
            PromptHoles x = Theatre.of("" + (char) ('a' + line), "a9ra");
            x.cough(39, 0);
            int want = line == 7 ? 0 : line + 1;
            CHECK.due("step(39, 0) behind " + line, x.step(39, 0), want);
            CHECK.due("whispers(39, 0) behind " + line, x.whispers(39, 0), want);
            CHECK.due("may(38, 38) behind " + line, x.may(38, 38), 1 << line | 1 << want);
            CHECK.due("slips(16, 0, .., 1, 0) behind " + line, x.slips(16, 0, want, 1, 0), 1);
        }
    }

    private static void mostDark() {
        CHECK.says("DARK, 6 at most");
        PromptHoles x = Theatre.of("abcdefgh", "");
        for (int i = 1; i <= 6; i++) {
            CHECK.due("dark " + i, x.dark(3 * i), i);
        }
        CHECK.due("the 7th", x.dark(21), -4);
        CHECK.due("count(6)", x.count(6), 6);
        played("the 6th counts, not the 7th", x, "abc".repeat(6), "abcdefgh");
        CHECK.due("back(2)", x.back(2), 5);
        played("behind back(2)", x, "abc".repeat(5), "abcdefgh");
        CHECK.due("the 6th again", x.dark(39), 6);
        played("another 6th", x, "abc".repeat(5) + "abcdefgh".repeat(3), "a");
        CHECK.due("the 7th again", x.dark(0), -4);
    }

    private static void dark() {
        CHECK.says("In STEP 0, and in the DARK, the first LINE of THE PLAY is played");
        PromptHoles x = Theatre.of("hab", "a9yc");
        CHECK.due("dark(0)", x.dark(0), 1);
        CHECK.due("dark(39)", x.dark(39), 2);
        // Behind c, which is nowhere, and behind h comes c or the first line by turns.
        played("dark in 0 and 39", x, "hc".repeat(19) + "h", "h");
        playedBy("dark in 0 and 39", x, "-" + "0".repeat(38), "-");
        CHECK.due("dark(1)", x.dark(1), 3);
        CHECK.due("dark(38)", x.dark(38), 4);
        played("dark in 1 and 38", x, "hh" + "ch".repeat(18), "h");
        playedBy("dark in 1 and 38", x, "--" + "0".repeat(36), "-");
        CHECK.says("DARK: no hole WHISPERS in it, whether it COUGHS or not");
        x.cough(38, 0);
        CHECK.due("step(38, 0)", x.step(38, 0), 7);
        CHECK.due("whispers(38, 0)", x.whispers(38, 0), -1);
        CHECK.due("whispers(37, 0)", x.whispers(37, 0), 7);
        CHECK.says("DARK (STEPS as told): the same one twice counts twice");
        PromptHoles y = Theatre.of("abc", "");
        y.dark(2);
        CHECK.due("dark(2) again", y.dark(2), 2);
        played("told twice", y, "ab", "abc");
        CHECK.due("back(2)", y.back(2), 1);
        played("one undone", y, "ab", "abc");
        CHECK.due("back(2) again", y.back(2), 0);
        played("both undone", y, "", "abc");
    }

    private static void back() {
        CHECK.says("12: NOT: there is none (each, with the others told)");
        for (int what = 0; what < 3; what++) {
            PromptHoles x = new PromptHoles();
            tellAll(x, what);
            CHECK.due("back(" + what + ")", x.back(what), -3);
            CHECK.due("the others", x.count(4) + x.count(5) + x.count(6), 2);
        }
        CHECK.says("12: the last MOVE, COUGH, DARK is undone: how many are left (none)");
        for (int what = 0; what < 3; what++) {
            PromptHoles x = new PromptHoles();
            tellAll(x, -1);
            CHECK.due("back(" + what + ")", x.back(what), 0);
            CHECK.due("back(" + what + ") again", x.back(what), -3);
            CHECK.due("the others", x.count(4) + x.count(5) + x.count(6), 2);
        }
        CHECK.says("12: from the most down to none");
        PromptHoles x = new PromptHoles();
        for (int i = 0; i < 12; i++) {
            tellAll(x, -1);
        }
        int[] most = {12, 12, 6};
        for (int what = 0; what < 3; what++) {
            for (int left = most[what] - 1; left >= 0; left--) {
                CHECK.due("back(" + what + ")", x.back(what), left);
            }
            CHECK.due("back(" + what + ") of none", x.back(what), -3);
        }
    }

    private static void tellAll(PromptHoles x, int but) {
        if (but != 0) {
            x.move(1, 1);
        }
        if (but != 1) {
            x.cough(1, 1);
        }
        if (but != 2) {
            x.dark(1);
        }
    }

    private static PromptHoles withSheet(int form, int items, int... first) {
        PromptHoles x = new PromptHoles();
        x.sheet(3, form, items);
        for (int i = 0; i < first.length; i++) {
            x.lay(3, form, i, first[i]);
        }
        return x;
    }

    private static void read() {
        CHECK.says("13: two for each, as many as are whole (0 items to 5)");
        int[] whole = {0, 0, 1, 1, 2, 2};
        for (int items = 0; items <= 5; items++) {
            PromptHoles x = withSheet(1, items, 1, 2, 3, 4, 5);
            CHECK.due("read(3) of " + items, x.read(3), whole[items]);
            CHECK.due("count(4) of " + items, x.count(4), whole[items]);
            CHECK.due("step(1, 2) of " + items, x.step(1, 2), items < 2 ? 0 : 2);
            CHECK.due("step(39, 2) of " + items, x.step(39, 2), items < 2 ? 0 : items < 4 ? 2 : 4);
            CHECK.due("the sheet stays", x.lose(3), items);
        }
        CHECK.says("13: of 60 items as many as MOVES may be");
        PromptHoles full = withSheet(0, 60, 39, 9);
        CHECK.due("read(3)", full.read(3), 12);
        CHECK.due("count(4)", full.count(4), 12);
        CHECK.due("step(39, 2)", full.step(39, 2), 9);
        CHECK.due("read(3) when full", full.read(3), 0);
        full.back(0);
        CHECK.due("read(3) with room for one", full.read(3), 1);
        CHECK.due("count(4) behind it", full.count(4), 12);
        CHECK.says("13: NULL: the SHEET is LOST");
        PromptHoles lost = new PromptHoles();
        for (int s = 0; s < 4; s++) {
            CHECK.due("read(" + s + ")", lost.read(s), -11);
        }
        CHECK.due("count(4)", lost.count(4), 0);
    }

    private static void readUntil() {
        CHECK.says("13: as long as each may be (a STEP 0 to 39, a PLACE 0 to 9)");
        int[][] may = {{0, 0}, {0, 9}, {39, 0}, {39, 9}};
        int[][] mayNot = {{-1, 0}, {40, 0}, {0, -1}, {0, 10}, {-128, 0}, {127, 0}, {0, -128}, {0, 127}};
        for (int form = 0; form < 3; form++) {
            for (int[] m : may) {
                PromptHoles x = withSheet(form, 4, m[0], m[1], m[0], m[1]);
                CHECK.due("read(3) of " + m[0] + ", " + m[1], x.read(3), 2);
                CHECK.due("where he stands", x.step(m[0], 2), m[1]);
            }
            for (int[] m : mayNot) {
                CHECK.due("read(3) of " + m[0] + ", " + m[1], withSheet(form, 4, m[0], m[1], 1, 1).read(3), 0);
                PromptHoles x = withSheet(form, 6, 2, 3, m[0], m[1], 1, 1);
                CHECK.due("read(3), " + m[0] + ", " + m[1] + " behind one", x.read(3), 1);
                CHECK.due("where he stands", x.step(39, 2), 3);
                CHECK.due("count(4)", x.count(4), 1);
            }
        }
        CHECK.says("13: an item is a MOVE's number as it stands, not its lowest bits");
        for (int big : new int[] {256, 257, 65536, 65537, Theatre.LEAST, Theatre.GREATEST}) {
            CHECK.due("read(3), STEP " + big, withSheet(2, 2, big, 1).read(3), 0);
            CHECK.due("read(3), PLACE " + big, withSheet(2, 2, 1, big).read(3), 0);
        }
    }

    private static void hears() {
        CHECK.says("it HEARS if the actor stood no farther from it than it HEARS (all PLACES, all 0 to 9)");
        for (int place = 0; place < 10; place++) {
            for (int far = 0; far < 10; far++) {
                for (int stood = 0; stood < 10; stood++) {
                    PromptHoles x = Theatre.of("ab", (char) ('a' + place) + "" + far + "ra");
                    x.move(0, stood);
                    boolean heard = place - stood <= far && stood - place <= far;
                    String name = "hole in " + place + ", HEARS " + far + ", he in " + stood;
                    CHECK.due(name + ", step(1, 1)", x.step(1, 1), heard ? 0 : -1);
                    CHECK.due(name + ", whispers(39, 0)", x.whispers(39, 0), heard ? 0 : -1);
                }
            }
        }
    }

    private static void hearsThen() {
        CHECK.says("HEARS what was played in the STEP ahead, if the actor then stood near (not now)");
        PromptHoles x = Theatre.of("ab", "a0ra");
        x.move(5, 9);
        playedBy("he leaves in 5", x, "-00000", "-");
        played("he leaves in 5", x, "aaaaaa", "ba");
        PromptHoles y = Theatre.of("ab", "j0ra");
        y.move(5, 9);
        playedBy("he comes in 5", y, "------", "0");
        PromptHoles last = Theatre.of("ab", "j0ra");
        last.move(38, 9);
        playedBy("he comes in 38", last, "-".repeat(39), "0");
        last.back(0);
        last.move(39, 9);
        playedBy("he comes in 39", last, "", "-");
    }

    private static void nearest() {
        CHECK.says("the hole that is nearest to where he stands now");
        PromptHoles x = Theatre.of("ab", "a9ra;j9nb");
        for (int place = 0; place < 10; place++) {
            x.move(place + 1, place);
        }
        playedBy("from one to the other", x, "-00000", "1");
        PromptHoles deaf = Theatre.of("ab", "b0ra;j9na");
        playedBy("the nearer one does not hear", deaf, "-", "1");
        CHECK.says("of like ones the least");
        PromptHoles like = Theatre.of("ab", "c9ra;a9nb");
        like.move(0, 1);
        playedBy("on either side", like, "-", "0");
        PromptHoles turned = Theatre.of("ab", "a9nb;c9ra");
        turned.move(0, 1);
        playedBy("turned about", turned, "-", "0");
        playedBy("nine in one place", Theatre.of("ab", "j9ra;".repeat(8) + "j9nb"), "-", "0");
        playedBy("the last one alone is near", Theatre.of("ab", "b9ra;".repeat(8) + "a9nb"), "-", "8");
    }

    private static void noneWhispers() {
        CHECK.says("if none WHISPERS, what is printed NEXT to what was played");
        played("behind the last one the first", Theatre.of("cab", ""), "", "cab");
        played("one line", Theatre.of("h", ""), "", "h");
        PromptHoles x = Theatre.of("ab", "a0ra");
        x.cough(1, 0);
        x.cough(2, 0);
        x.move(2, 9);
        played("behind a line that is nowhere the first one", x, "abc", "ab");
        playedBy("behind a line that is nowhere", x, "-00", "-");
    }

    private static void youth() {
        CHECK.says("y: the LINE of its youth, but behind that what is printed next");
        played("in the middle", Theatre.of("abcd", "a9yb"), "a", "bc");
        played("the last one, so then the first", Theatre.of("abcd", "a9yd"), "", "ad");
        played("the first one", Theatre.of("abcd", "a9ya"), "", "ab");
        played("a line that is nowhere", Theatre.of("abcd", "a9yh"), "", "ah");
        played("of one line", Theatre.of("h", "a9yh"), "", "h");
    }

    private static void beside() {
        CHECK.says("l: that LINE, if that is printed next to it on either side; else the same again");
        played("next to the first", Theatre.of("abcd", "a9lb"), "a", "b");
        played("ahead of the first, which is the last", Theatre.of("abcd", "a9ld"), "a", "d");
        played("on no side", Theatre.of("abcde", "a9lc"), "", "a");
        played("nowhere", Theatre.of("abcd", "a9lh"), "", "a");
        PromptHoles x = Theatre.of("abcd", "a9ra;j9la");
        x.cough(1, 0);
        x.cough(2, 0);
        x.cough(3, 0);
        x.move(4, 9);
        played("next to the last, which is the first", x, "abcd", "a");
        x.back(1);
        played("on no side of c", x, "abc", "c");
        PromptHoles y = Theatre.of("abcd", "a9rh;j9la");
        for (int step = 1; step <= 4; step++) {
            y.cough(step, 0);
        }
        y.move(5, 9);
        played("a line that is nowhere has the first one on either side", y, "abcde", "a");
        PromptHoles z = Theatre.of("abcd", "a9rh;j9ld");
        for (int step = 1; step <= 4; step++) {
            z.cough(step, 0);
        }
        z.move(5, 9);
        played("not the last one", z, "abcde", "e");
    }

    private static void printed() {
        CHECK.says("PRINTED: the place that the STEP is modulo its length (1 to 24); NONE");
        String play = "hgfedcbahgfedcbahgfedcba";
        for (int length = 1; length <= 24; length++) {
            String lines = play.substring(0, length);
            PromptHoles x = Theatre.of(lines, "");
            CHECK.same("of " + length, Theatre.printed(x), Theatre.steps("", lines));
        }
        CHECK.same("without a play", Theatre.printed(new PromptHoles()), Theatre.steps("", "-"));
    }

    private static void whispers() {
        CHECK.says("15: what a hole WHISPERS; NONE (STEP 0, 1, 39; the first hole, the last)");
        PromptHoles x = Theatre.of("gh", "a9nb;" + EIGHT_FAR.substring(0, 35) + "j9yh");
        CHECK.same("hole 0", Theatre.whispered(x, 0), Theatre.steps("-", "hg"));
        CHECK.same("hole 1", Theatre.whispered(x, 1), Theatre.steps("", "-"));
        CHECK.same("hole 8, behind h what is printed next", Theatre.whispered(x, 8), Theatre.steps("-", "hg"));
        x.cough(1, 8);
        x.cough(39, 8);
        x.cough(0, 8);
        x.cough(5, 1);
        x.dark(2);
        // Dark in 2: played are g h g h .. as before; the cough in 1 is not played.
        CHECK.same("hole 8 coughs", Theatre.whispered(x, 8), Theatre.steps("-a-" + "hg".repeat(18), "a"));
        CHECK.same("hole 1 hears nothing, so it coughs none", Theatre.whispered(x, 1), Theatre.steps("", "-"));
    }

    private static void drift() {
        CHECK.says("DRIFT: the first STEP, in how many STEPS; NONE: in none");
        PromptHoles x = Theatre.of("ab", "");
        drifts("in none", x, -1, -1);
        x.dark(39);
        drifts("in the last STEP alone", x, 39, 1);
        x.back(2);
        x.dark(1);
        drifts("in all but STEP 0", x, 1, 39);
        PromptHoles y = Theatre.of("h", "a9rh");
        y.cough(1, 0);
        drifts("in all but STEP 0 by a cough", y, 1, 39);
        y.back(1);
        y.cough(39, 0);
        drifts("a cough in the last STEP", y, 39, 1);
        PromptHoles z = Theatre.of("ab", "a9ra");
        drifts("in every second STEP", z, 1, 20);
        drifts("printed twice, so drifted by its own print", Theatre.of("abac", ""), 3, 10);
        drifts("without a play", Theatre.of("", "a9ra"), -1, -1);
    }

    private static void drifts(String name, PromptHoles x, int first, int many) {
        CHECK.due(name + ", drift(0)", x.drift(0), first);
        CHECK.due(name + ", drift(1)", x.drift(1), many);
    }

    private static void round() {
        CHECK.says("ROUND: the least number of STEPS (1 to 12); NONE");
        CHECK.due("1", Theatre.of("abc", "a9ra").round(), 1);
        for (int many = 2; many <= 8; many++) {
            CHECK.due("of " + many + " lines", Theatre.of("abcdefgh".substring(0, many), "").round(), many);
        }
        for (int many = 9; many <= 14; many++) {
            PromptHoles x = Theatre.of("abcdefgh", "");
            for (int step = 16; step < 40; step += many) {
                x.dark(step);
            }
            CHECK.due("dark in every STEP of " + many, x.round(), many <= 12 ? many : -1);
        }
        CHECK.says("ROUND: the least one, not one of its multiples");
        CHECK.due("of 24 lines, three times eight", Theatre.of(Theatre.FULL_PLAY, "").round(), 8);
        CHECK.says("ROUND: without a PLAY 1");
        CHECK.due("new", new PromptHoles().round(), 1);
        CHECK.due("with holes", Theatre.of("", "a9ra").round(), 1);
        CHECK.due("with a fault", Theatre.of("abi", "a9na").round(), 1);
    }

    private static void roundFrom() {
        CHECK.says("ROUND: in all STEPS from 16 on (not 15, not 17)");
        for (int step = 1; step <= 39; step++) {
            PromptHoles x = Theatre.of("a", "a9ra");
            x.cough(step, 0);
            CHECK.due("a line more from " + step + " on", x.round(), step <= 16 ? 1 : -1);
        }
        CHECK.says("ROUND: in all STEPS for which there are such (the last pair as well)");
        PromptHoles y = Theatre.of("abcdefgh", "");
        y.dark(16);
        y.dark(28);
        CHECK.due("12, with the pair of 27 and 39", y.round(), 12);
        y.dark(39);
        CHECK.due("not with another line in 39", y.round(), -1);
        y.dark(27);
        CHECK.due("but with the same one in 27", y.round(), 12);
    }

    private static void often() {
        CHECK.says("OFTEN: in how many STEPS (none, one, all); LAST: the last STEP (0, 39); NONE");
        PromptHoles all = Theatre.of("h", "");
        oftenLast("all", all, 7, 40, 39);
        oftenLast("none", all, 0, 0, -1);
        oftenLast("none", all, 6, 0, -1);
        // Behind a the hole whispers b, and behind b, which has a on either side, b again.
        PromptHoles once = Theatre.of("ab", "a9lb");
        oftenLast("in STEP 0 alone", once, 0, 1, 0);
        oftenLast("in all but STEP 0", once, 1, 39, 39);
        once.cough(39, 0);
        oftenLast("in STEP 39 alone", once, 2, 1, 39);
        oftenLast("not in STEP 39", once, 1, 38, 38);
    }

    private static void oftenLast(String name, PromptHoles x, int line, int many, int last) {
        CHECK.due(name + ", often(" + line + ", 0)", x.often(line, 0), many);
        CHECK.due(name + ", often(" + line + ", 1)", x.often(line, 1), last);
    }
}
