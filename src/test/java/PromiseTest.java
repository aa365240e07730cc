/**
 * The promises of the document one by one: ordinary inputs, the edges that it names, wrong
 * inputs. What is due is worked out by hand from the document's words.
 */
public final class PromiseTest {
    private static final int LEAST = Theatre.LEAST;
    private static final long BAD_LONG = Theatre.BAD_LONG;
    private static final Check CHECK = new Check("PromiseTest");

    public static void main(String[] args) {
        newObject();
        type();
        wipe();
        undo();
        fault();
        line();
        hole();
        printed();
        move();
        cough();
        dark();
        back();
        read();
        step();
        habits();
        whispers();
        drift();
        round();
        often();
        may();
        prompt();
        seen();
        forget();
        filed();
        coughed();
        ask();
        slips();
        evening();
        sheet();
        lose();
        lay();
        get();
        copy();
        write();
        count();
        digest();
        CHECK.end();
    }

    private static void due(String call, long got, long want) {
        CHECK.due(call, got, want);
    }

    /** Letters of what is played from step 0 on; - where nothing is. */
    private static void plays(String name, PromptHoles x, String want) {
        for (int s = 0; s < want.length(); s++) {
            due(name + ", step(" + s + ", 0)", x.step(s, 0), want.charAt(s) == '-' ? -1 : want.charAt(s) - 'a');
        }
    }

    /** Figures of the holes by which it is played from step 0 on; - where none is. */
    private static void playedBy(String name, PromptHoles x, String want) {
        for (int s = 0; s < want.length(); s++) {
            due(name + ", step(" + s + ", 1)", x.step(s, 1), want.charAt(s) == '-' ? -1 : want.charAt(s) - '0');
        }
    }

    private static void newObject() {
        PromptHoles x = new PromptHoles();
        for (int what = 0; what <= 8; what++) {
            due("new, count(" + what + ")", x.count(what), 0);
        }
        due("new, line(0)", x.line(0), -1);
        due("new, hole(0, 0)", x.hole(0, 0), -2);
        for (int s = 0; s < 4; s++) {
            due("new, lose(" + s + ")", x.lose(s), -11);
        }
        due("new, count(8) behind it", x.count(8), 1);
    }

    private static void type() {
        PromptHoles x = new PromptHoles();
        due("type(0, 0)", x.type(0, 0), 1);
        due("type(0, 255)", x.type(0, 255), 2);
        due("type(1, 97)", x.type(1, 97), 1);
        due("type(-1, 97)", x.type(-1, 97), -2);
        due("type(2, 97)", x.type(2, 97), -2);
        due("type(0, -1)", x.type(0, -1), -2);
        due("type(0, 256)", x.type(0, 256), -2);
        due("type, count(2)", x.count(2), 2);
        for (int i = 3; i <= 24; i++) {
            due("type, byte " + i, x.type(0, 'a'), i);
        }
        due("type, byte 25", x.type(0, 'a'), -4);
        due("type, BAD ahead of FULL", x.type(0, 256), -2);
        for (int i = 2; i <= 44; i++) {
            due("type, byte " + i + " of text 1", x.type(1, 'a'), i);
        }
        due("type, byte 45 of text 1", x.type(1, ';'), -4);
        due("type, count(2) when full", x.count(2), 24);
        due("type, count(3) when full", x.count(3), 44);
    }

    private static void wipe() {
        PromptHoles x = Theatre.of("abc", "a0na");
        due("wipe(-1)", x.wipe(-1), -2);
        due("wipe(2)", x.wipe(2), -2);
        due("wipe(0)", x.wipe(0), 3);
        due("wipe(0) again", x.wipe(0), 0);
        due("wipe, step(0, 0)", x.step(0, 0), -1);
        due("wipe, count(1)", x.count(1), 1);
        due("wipe(1)", x.wipe(1), 4);
        due("wipe, count(1) behind it", x.count(1), 0);
    }

    private static void undo() {
        PromptHoles x = Theatre.of("abx", "a0na");
        due("undo(-1)", x.undo(-1), -2);
        due("undo(2)", x.undo(2), -2);
        due("undo, no play", x.count(0), 0);
        due("undo(0)", x.undo(0), 2);
        due("undo, a play", x.count(0), 2);
        due("undo(0) again", x.undo(0), 1);
        due("undo(0) the last", x.undo(0), 0);
        due("undo(0) of none", x.undo(0), -3);
        due("undo(1)", x.undo(1), 3);
        due("undo, no holes", x.count(1), 0);
    }

    private static void fault() {
        PromptHoles x = new PromptHoles();
        due("fault(-1)", x.fault(-1), -2);
        due("fault(2)", x.fault(2), -2);
        faultOf(0, "", -1);
        faultOf(0, "abcdefgh", -1);
        faultOf(0, "i", 0);
        faultOf(0, "ab`i", 2);
        faultOf(0, "aA", 1);
        faultOf(1, "", -1);
        faultOf(1, "a0na", -1);
        faultOf(1, "j9lh;a0ya;e5rd", -1);
        faultOf(1, "k", 0);
        faultOf(1, "`", 0);
        faultOf(1, "a", 1);
        faultOf(1, "aa", 1);
        faultOf(1, "a/", 1);
        faultOf(1, "a:", 1);
        faultOf(1, "a0", 2);
        faultOf(1, "a0m", 2);
        faultOf(1, "a0n", 3);
        faultOf(1, "a0ni", 3);
        faultOf(1, "a0n;", 3);
        faultOf(1, "a0na,", 4);
        faultOf(1, "a0naa", 4);
        faultOf(1, "a0na;", 5);
        faultOf(1, "a0na;;", 5);
        faultOf(1, "a0na;b1rb;c", 11);
        faultOf(1, ";", 0);
        StringBuilder nine = new StringBuilder("a0na");
        for (int i = 0; i < 8; i++) {
            nine.append(";a0na");
        }
        faultOf(1, nine.toString(), -1);
        PromptHoles y = Theatre.of("ab", "a9rb;b");
        due("a fault, count(1)", y.count(1), 0);
        due("a fault, count(3)", y.count(3), 6);
        plays("a fault in the holes", y, "abab");
    }

    private static void faultOf(int text, String bytes, int want) {
        PromptHoles x = new PromptHoles();
        Theatre.typeAll(x, text, bytes);
        due("fault(" + text + ") of " + bytes, x.fault(text), want);
    }

    private static void line() {
        PromptHoles x = Theatre.of("hab", "");
        due("line(0)", x.line(0), 7);
        due("line(1)", x.line(1), 0);
        due("line(2)", x.line(2), 1);
        due("line(3)", x.line(3), -1);
        due("line(23)", x.line(23), -1);
        due("line(24)", x.line(24), -2);
        due("line(-1)", x.line(-1), -2);
        x.type(0, 'z');
        due("line(0) with a fault", x.line(0), -1);
        PromptHoles full = Theatre.of("aaaaaaaaaaaaaaaaaaaaaaah", "");
        due("line(23) of a full play", full.line(23), 7);
    }

    private static void hole() {
        PromptHoles x = Theatre.of("", "c7nh;a0rd;j9ya;b5lb");
        int[][] want = {{2, 7, 0, 7}, {0, 0, 1, 3}, {9, 9, 2, 0}, {1, 5, 3, 1}};
        for (int h = 0; h < 4; h++) {
            for (int what = 0; what < 4; what++) {
                due("hole(" + h + ", " + what + ")", x.hole(h, what), want[h][what]);
            }
        }
        due("hole(4, 0)", x.hole(4, 0), -2);
        due("hole(-1, 0)", x.hole(-1, 0), -2);
        due("hole(0, -1)", x.hole(0, -1), -2);
        due("hole(0, 4)", x.hole(0, 4), -2);
        x.type(1, ';');
        due("hole(0, 0) with a fault", x.hole(0, 0), -2);
    }

    private static void printed() {
        PromptHoles x = Theatre.of("cabad", "");
        int[] next = {1, 0, 0, 2, 2, 2, 2, 2};
        int[] ahead = {2, 0, 3, 0, 2, 2, 2, 2};
        for (int l = 0; l < 8; l++) {
            due("printed(" + l + ", 0)", x.printed(l, 0), next[l]);
            due("printed(" + l + ", 1)", x.printed(l, 1), ahead[l]);
        }
        due("printed(-1, 0)", x.printed(-1, 0), -2);
        due("printed(8, 0)", x.printed(8, 0), -2);
        due("printed(0, -1)", x.printed(0, -1), -2);
        due("printed(0, 2)", x.printed(0, 2), -2);
        PromptHoles one = Theatre.of("e", "");
        due("printed(4, 0) of one line", one.printed(4, 0), 4);
        due("printed(4, 1) of one line", one.printed(4, 1), 4);
        PromptHoles none = Theatre.of("", "");
        due("printed(0, 0) without a play", none.printed(0, 0), -1);
        due("printed(0, 1) without a play", none.printed(0, 1), -1);
        due("printed(8, 0) without a play", none.printed(8, 0), -2);
    }

    private static void move() {
        PromptHoles x = new PromptHoles();
        due("move(-1, 0)", x.move(-1, 0), -2);
        due("move(40, 0)", x.move(40, 0), -2);
        due("move(0, -1)", x.move(0, -1), -2);
        due("move(0, 10)", x.move(0, 10), -2);
        due("move(20, 5)", x.move(20, 5), 1);
        due("move(10, 9)", x.move(10, 9), 2);
        due("stands in 9", x.step(9, 2), 0);
        due("stands in 10", x.step(10, 2), 9);
        due("stands in 19", x.step(19, 2), 9);
        due("stands in 20", x.step(20, 2), 5);
        due("stands in 39", x.step(39, 2), 5);
        due("move(10, 3)", x.move(10, 3), 3);
        due("of like ones the last", x.step(15, 2), 3);
        due("move(0, 7)", x.move(0, 7), 4);
        due("stands in 0", x.step(0, 2), 7);
        due("move(39, 0)", x.move(39, 0), 5);
        due("stands in 39 by its own move", x.step(39, 2), 0);
        for (int i = 6; i <= 12; i++) {
            due("move " + i, x.move(30, 1), i);
        }
        due("move 13", x.move(30, 2), -4);
        due("BAD ahead of FULL", x.move(40, 2), -2);
        due("FULL changes nothing", x.step(30, 2), 1);
    }

    private static void cough() {
        PromptHoles x = Theatre.of("gh", "a9ra;b9ra");
        due("cough(-1, 0)", x.cough(-1, 0), -2);
        due("cough(40, 0)", x.cough(40, 0), -2);
        due("cough(0, -1)", x.cough(0, -1), -2);
        due("cough(0, 9)", x.cough(0, 9), -2);
        due("cough(2, 8)", x.cough(2, 8), 1);
        plays("a hole that is not there", x, "gggg");
        due("cough(2, 0)", x.cough(2, 0), 2);
        plays("a cough", x, "gghhh");
        due("cough(2, 0) again", x.cough(2, 0), 3);
        plays("the same cough twice", x, "gghhh");
        due("cough(4, 0)", x.cough(4, 0), 4);
        plays("behind h comes a", x, "gghhaa");
        due("cough(5, 1)", x.cough(5, 1), 5);
        plays("the other hole's cough", x, "gghhaaa");
        due("cough(0, 0)", x.cough(0, 0), 6);
        plays("a cough in step 0", x, "ggh");
        for (int i = 7; i <= 12; i++) {
            due("cough " + i, x.cough(39, 0), i);
        }
        due("cough 13", x.cough(1, 0), -4);
        due("BAD ahead of FULL", x.cough(1, 9), -2);
        due("step(39, 0)", x.step(39, 0), 1);
    }

    private static void dark() {
        PromptHoles x = Theatre.of("abc", "a9nd");
        due("dark(-1)", x.dark(-1), -2);
        due("dark(40)", x.dark(40), -2);
        due("dark(2)", x.dark(2), 1);
        plays("dark in 2", x, "ababcabc");
        playedBy("dark in 2", x, "-0-000");
        x.cough(2, 0);
        plays("a cough in the dark", x, "abab");
        due("dark(2) again", x.dark(2), 2);
        due("dark(0)", x.dark(0), 3);
        due("dark(39)", x.dark(39), 4);
        due("step(39, 0)", x.step(39, 0), 0);
        due("dark(4)", x.dark(4), 5);
        due("dark(5)", x.dark(5), 6);
        due("dark(6)", x.dark(6), -4);
        due("BAD ahead of FULL", x.dark(40), -2);
    }

    private static void back() {
        PromptHoles x = Theatre.of("ab", "a9ra");
        due("back(-1)", x.back(-1), -2);
        due("back(3)", x.back(3), -2);
        for (int what = 0; what < 3; what++) {
            due("back(" + what + ") of none", x.back(what), -3);
        }
        x.move(1, 4);
        x.move(1, 5);
        x.cough(1, 0);
        x.dark(3);
        x.dark(3);
        due("back(0)", x.back(0), 1);
        due("back, stands", x.step(1, 2), 4);
        due("back(0) again", x.back(0), 0);
        due("back, stands in 0", x.step(1, 2), 0);
        plays("ahead of back(1)", x, "abba");
        due("back(1)", x.back(1), 0);
        plays("behind back(1)", x, "aaaa");
        due("back(2)", x.back(2), 1);
        due("back, count(6)", x.count(6), 1);
        due("back(2) again", x.back(2), 0);
        due("back(2) of none", x.back(2), -3);
    }

    private static void read() {
        PromptHoles x = new PromptHoles();
        due("read(-1)", x.read(-1), -2);
        due("read(4)", x.read(4), -2);
        due("read(2), lost", x.read(2), -11);
        due("read, count(8)", x.count(8), 1);
        x.sheet(2, 0, 5);
        x.lay(2, 0, 0, 3);
        x.lay(2, 0, 1, 8);
        x.lay(2, 0, 2, 39);
        x.lay(2, 0, 3, 9);
        x.lay(2, 0, 4, 7);
        x.move(3, 1);
        due("read(2)", x.read(2), 2);
        due("read, count(4)", x.count(4), 3);
        due("read, step(3, 2)", x.step(3, 2), 8);
        due("read, step(39, 2)", x.step(39, 2), 9);
        x.lay(2, 0, 2, 40);
        due("read(2) up to a bad one", x.read(2), 1);
        x.lay(2, 0, 0, -1);
        due("read(2), the first one bad", x.read(2), 0);
        x.sheet(3, 2, 60);
        due("read(3) until it is full", x.read(3), 8);
        due("read, count(4) when full", x.count(4), 12);
        due("read(3) when full", x.read(3), 0);
        x.sheet(1, 1, 0);
        due("read(1) of no items", x.read(1), 0);
    }

    private static void step() {
        PromptHoles x = Theatre.of("abcd", "c1ra;a0nb");
        due("step(-1, 0)", x.step(-1, 0), -2);
        due("step(40, 0)", x.step(40, 0), -2);
        due("step(0, -1)", x.step(0, -1), -2);
        due("step(0, 4)", x.step(0, 4), -2);
        plays("near hole 1", x, "abcda");
        playedBy("near hole 1", x, "-1111");
        // Hole 0 is nearer to place 2 where he now stands, but he was heard in place 0 by hole 1 alone.
        x.move(3, 2);
        playedBy("heard where he stood", x, "-1110");
        x.back(0);
        x.move(3, 1);
        playedBy("in place 1 hole 0 alone hears", x, "-11100");
        plays("the same again", x, "abcddd");
        x.move(5, 9);
        plays("none hears in place 9", x, "abcdddab");
        playedBy("none hears in place 9", x, "-11100--");
        PromptHoles like = Theatre.of("ab", "d9rc;b9nc;b9rc");
        like.move(0, 2);
        playedBy("of like ones the least", like, "-00");
        like.move(2, 1);
        playedBy("nearest now", like, "-011");
        PromptHoles none = Theatre.of("", "a9ya");
        plays("without a play", none, "----");
        playedBy("without a play", none, "----");
        due("without a play, where", none.step(5, 2), 0);
        due("without a play, printed", none.step(5, 3), -1);
        PromptHoles three = Theatre.of("hfg", "");
        due("step(0, 3)", three.step(0, 3), 7);
        due("step(4, 3)", three.step(4, 3), 5);
        due("step(38, 3)", three.step(38, 3), 6);
        due("step(39, 3)", three.step(39, 3), 7);
    }

    private static void habits() {
        plays("n", Theatre.of("abad", "a9nc"), "abababa");
        plays("n of a line that is nowhere", coughIn(Theatre.of("abc", "a9nc"), 2), "abdab");
        plays("r", Theatre.of("abcd", "a9rc"), "aaaa");
        plays("y", Theatre.of("abcd", "a9yc"), "acdcdcdc");
        plays("y of the first line", Theatre.of("abcd", "a9ya"), "ababab");
        plays("y of a line that is nowhere", Theatre.of("abcd", "a9yh"), "ahahah");
        plays("l behind", Theatre.of("abcd", "a9lb"), "abbb");
        plays("l ahead", Theatre.of("abcd", "a9ld"), "addd");
        plays("l on no side", Theatre.of("abcd", "a9lc"), "aaaa");
        plays("l by the first place alone", Theatre.of("bacbda", "a9ld"), "bbbb");
        plays("l beside a line that is nowhere", coughIn(Theatre.of("abc", "a9ra;a9la"), 3), "aaabb");
        // e is nowhere: what is printed next to it, on either side, is the first line.
        PromptHoles x = Theatre.of("abcd", "a9yf;j9la");
        x.move(2, 9);
        plays("l, heard a line that is nowhere", x, "afaa");
    }

    private static PromptHoles coughIn(PromptHoles x, int step) {
        x.cough(step, 0);
        return x;
    }

    private static void whispers() {
        PromptHoles x = Theatre.of("abcd", "a0na;c1rb;j9yh");
        due("whispers(-1, 0)", x.whispers(-1, 0), -2);
        due("whispers(40, 0)", x.whispers(40, 0), -2);
        due("whispers(1, -1)", x.whispers(1, -1), -2);
        due("whispers(1, 3)", x.whispers(1, 3), -2);
        due("whispers(0, 0)", x.whispers(0, 0), -1);
        due("whispers(1, 0)", x.whispers(1, 0), 1);
        due("whispers(1, 1)", x.whispers(1, 1), -1);
        due("whispers(1, 2)", x.whispers(1, 2), 7);
        x.cough(1, 2);
        due("whispers(1, 2) with a cough", x.whispers(1, 2), 0);
        x.cough(1, 1);
        due("whispers(1, 1) hears nothing", x.whispers(1, 1), -1);
        x.move(4, 1);
        due("whispers(5, 1)", x.whispers(5, 1), x.step(4, 0));
        due("whispers(4, 1)", x.whispers(4, 1), -1);
        x.dark(5);
        due("whispers(5, 1) in the dark", x.whispers(5, 1), -1);
        due("whispers(39, 0)", x.whispers(39, 0), -1);
        PromptHoles none = Theatre.of("", "a9ya");
        due("whispers(1, 0) without a play", none.whispers(1, 0), -1);
    }

    private static void drift() {
        PromptHoles x = Theatre.of("abcd", "");
        due("drift(-1)", x.drift(-1), -2);
        due("drift(2)", x.drift(2), -2);
        due("drift(0) of none", x.drift(0), -1);
        due("drift(1) of none", x.drift(1), -1);
        x.dark(38);
        // Printed in 38 and 39: c, d; played: a, b.
        due("drift(0)", x.drift(0), 38);
        due("drift(1)", x.drift(1), 2);
        PromptHoles r = Theatre.of("abcd", "a9ra");
        due("drift(0) of r", r.drift(0), 1);
        due("drift(1) of r", r.drift(1), 30);
        PromptHoles none = Theatre.of("", "a9ra");
        due("drift(0) without a play", none.drift(0), -1);
        due("drift(1) without a play", none.drift(1), -1);
    }

    private static void round() {
        due("round() without a play", new PromptHoles().round(), 1);
        due("round() of r", Theatre.of("abc", "a9ra").round(), 1);
        due("round() of three", Theatre.of("abc", "").round(), 3);
        due("round() of eight", Theatre.of("abcdefgh", "").round(), 8);
        // abac: behind a always b, so the play's own length does not count.
        due("round() of abac", Theatre.of("abac", "").round(), 2);
        PromptHoles x = Theatre.of("abc", "");
        x.dark(15);
        due("round(), dark ahead of 16", x.round(), 3);
        x.dark(17);
        // From 16 on: b a b c a b c ..: never again is b played ahead of a.
        due("round(), dark in 17", x.round(), -1);
        PromptHoles late = Theatre.of("aaaaaaaaaaaaaaaaaaaaaaab", "a9ra");
        late.cough(39, 0);
        due("round(), a cough in 39", late.round(), -1);
        late.back(1);
        late.cough(28, 0);
        due("round(), a cough in 28", late.round(), -1);
        PromptHoles twelve = Theatre.of("abcdefgh", "");
        twelve.dark(28);
        twelve.dark(16);
        // a to h, a to d from 16 on and again from 28 on: behind 12 steps, but not behind 8.
        due("round() of twelve", twelve.round(), 12);
    }

    private static void often() {
        PromptHoles x = Theatre.of("abc", "");
        due("often(-1, 0)", x.often(-1, 0), -2);
        due("often(8, 0)", x.often(8, 0), -2);
        due("often(0, -1)", x.often(0, -1), -2);
        due("often(0, 2)", x.often(0, 2), -2);
        due("often(0, 0)", x.often(0, 0), 14);
        due("often(0, 1)", x.often(0, 1), 39);
        due("often(1, 0)", x.often(1, 0), 13);
        due("often(2, 0)", x.often(2, 0), 13);
        due("often(2, 1)", x.often(2, 1), 38);
        due("often(3, 0)", x.often(3, 0), 0);
        due("often(3, 1)", x.often(3, 1), -1);
        PromptHoles none = new PromptHoles();
        due("often(0, 0) without a play", none.often(0, 0), 0);
        due("often(0, 1) without a play", none.often(0, 1), -1);
    }

    private static void may() {
        PromptHoles x = Theatre.of("abcd", "a9rb;b9ra");
        due("may(-1, 0)", x.may(-1, 0), -2);
        due("may(40, 0)", x.may(40, 0), -2);
        due("may(0, -1)", x.may(0, -1), -2);
        due("may(0, 40)", x.may(0, 40), -2);
        due("may(3, 5)", x.may(3, 5), 3);
        due("may(3, 3)", x.may(3, 3), 3);
        due("may(3, 2), ahead of it", x.may(3, 2), 1);
        due("may(0, 5), step 0", x.may(0, 5), 1);
        x.cough(3, 1);
        due("may(3, 5), hole 1 is farther", x.may(3, 5), 3);
        x.cough(3, 0);
        due("may(3, 5), it coughs as told", x.may(3, 5), 2);
        due("may(4, 5)", x.may(4, 5), 6);
        x.dark(4);
        due("may(4, 5) in the dark", x.may(4, 5), 1);
        due("may(3, 5), dark behind it", x.may(3, 5), 1);
        due("may without holes", Theatre.of("abcd", "").may(3, 6), 4);
        due("may without a play", Theatre.of("", "a9rb").may(3, 6), 0);
    }

    private static void prompts(String name, PromptHoles x, int line, int least, int last, int many) {
        due(name + ", prompt(1, 3, " + line + ", 0)", x.prompt(1, 3, line, 0), least);
        due(name + ", prompt(1, 3, " + line + ", 1)", x.prompt(1, 3, line, 1), last);
        due(name + ", prompt(1, 3, " + line + ", 2)", x.prompt(1, 3, line, 2), many);
    }

    private static void prompt() {
        PromptHoles x = Theatre.of("abcd", "");
        int[][] bad = {{0, 3, 0, 0}, {-1, 3, 0, 0}, {3, 3, 0, 0}, {4, 3, 0, 0}, {1, 40, 0, 0}, {40, 41, 0, 0},
            {1, -1, 0, 0}, {1, 3, -1, 0}, {1, 3, 8, 0}, {1, 3, 0, -1}, {1, 3, 0, 3}, {1, 0, 0, 0}};
        for (int[] b : bad) {
            due("prompt, bad " + b[0] + " " + b[1] + " " + b[2] + " " + b[3], x.prompt(b[0], b[1], b[2], b[3]), -2);
        }
        // Behind e to h, which are nowhere, comes a: so do they all in the step ahead.
        prompts("no holes", x, 0, 8 + 2, 2, 6);
        prompts("no holes", x, 1, 8 + 3, 2, 6);
        prompts("no holes", x, 2, 8 + 0, 2, 2);
        prompts("no holes", x, 4, -1, -1, 0);
        due("prompt(38, 39, 0, 2)", x.prompt(38, 39, 0, 2), 5);
        x.dark(2);
        prompts("dark in 2", x, 1, 8, 2, 9);
        prompts("dark in 2", x, 0, 16 + 3, 2, 5);
        x.dark(3);
        prompts("dark in the later one", x, 0, 8, 2, 16);
        prompts("dark in the later one", x, 1, -1, -1, 0);
        PromptHoles r = Theatre.of("abcd", "a9rb");
        r.cough(2, 0);
        // A whisper of one's own takes the place of the cough in 2; behind one in 1 it counts.
        prompts("r with a cough in 2", r, 5, 8 + 4, 2, 2);
        prompts("r with a cough in 2", r, 0, 8 + 7, 2, 2);
        PromptHoles y = Theatre.of("abcd", "a9yb");
        // In 1 all but b, then b, then c; in 2 b, then c.
        prompts("y", y, 2, 8 + 0, 2, 8);
        PromptHoles none = Theatre.of("", "a9rb");
        prompts("without a play", none, 0, -1, -1, 0);
    }

    private static void seen() {
        PromptHoles x = new PromptHoles();
        due("seen(-1, 0)", x.seen(-1, 0), -2);
        due("seen(40, 0)", x.seen(40, 0), -2);
        due("seen(0, -1)", x.seen(0, -1), -2);
        due("seen(0, 8)", x.seen(0, 8), -2);
        for (int i = 1; i <= 8; i++) {
            due("seen " + i, x.seen(39, 7), i);
        }
        due("seen 9", x.seen(0, 0), -4);
        due("BAD ahead of FULL", x.seen(40, 0), -2);
        due("seen, count(7)", x.count(7), 8);
    }

    private static void forget() {
        PromptHoles x = Theatre.of("ab", "a9ra");
        due("forget() of none", x.forget(), 0);
        x.seen(1, 5);
        x.seen(2, 5);
        due("forget, filed() ahead of it", x.filed(), 0);
        due("forget()", x.forget(), 2);
        due("forget, count(7)", x.count(7), 0);
        due("forget, filed() behind it", x.filed(), 1);
        due("forget, seen again", x.seen(1, 0), 1);
    }

    private static void filed() {
        PromptHoles x = Theatre.of("abcd", "c1re;d1re;j9na");
        due("filed() with nothing seen", x.filed(), 7);
        // Hole 2 hears all, and plays what is printed; hole 0, filed, would play the same again.
        x.seen(5, 0);
        due("filed(), hole 0", x.filed(), 1);
        x.seen(0, 0);
        due("filed(), hole 0 still", x.filed(), 1);
        x.forget();
        x.seen(5, 1);
        due("filed(), holes 1 and 2 change nothing", x.filed(), 6);
        x.seen(6, 0);
        due("filed(), none", x.filed(), 0);
        due("filed() without a play, nothing seen", Theatre.of("", "a9ra;b9ra").filed(), 3);
        PromptHoles none = Theatre.of("", "a9ra;b9ra");
        none.seen(0, 0);
        due("filed() without a play", none.filed(), 0);
        due("filed() without holes", Theatre.of("ab", "").filed(), 0);
    }

    private static void coughed() {
        PromptHoles x = Theatre.of("abcd", "a9ra;b9ra");
        due("coughed(-1)", x.coughed(-1), -2);
        due("coughed(2)", x.coughed(2), -2);
        due("coughed(0) with nothing seen", x.coughed(0), 0x7fffffff);
        x.seen(10, 1);
        due("coughed(0)", x.coughed(0), 0x7fe);
        due("coughed(1), hole 0 is played", x.coughed(1), 0);
        x.seen(4, 0);
        due("coughed(0), seen twice", x.coughed(0), 0x7e0);
        x.forget();
        x.seen(10, 0);
        due("coughed(0), none up to 10", x.coughed(0), 0x7ffff801);
        due("coughed(1), all", x.coughed(1), 0x7fffffff);
        x.forget();
        x.cough(3, 0);
        x.seen(10, 1);
        // In 3 it coughs anyway: once more is the same.
        due("coughed(0), besides what is told", x.coughed(0), 0x7ffff809);
        x.dark(11);
        x.forget();
        x.seen(11, 0);
        due("coughed(0), dark", x.coughed(0), 0x7fffffff);
        PromptHoles none = Theatre.of("", "a9ra");
        due("coughed(0) without a play, nothing seen", none.coughed(0), 0x7fffffff);
        none.seen(3, 0);
        due("coughed(0) without a play", none.coughed(0), 0);
    }

    private static void ask() {
        PromptHoles x = Theatre.of("abcd", "a9ra;b9ra");
        due("ask(-1)", x.ask(-1), -2);
        due("ask(2)", x.ask(2), -2);
        // Of 31 steps: in step s the s coughs from 1 to s make it b.
        due("ask(0)", x.ask(0), 15);
        due("ask(1)", x.ask(1), 0);
        x.seen(10, 1);
        due("ask(0), of 10", x.ask(0), 5);
        x.seen(4, 0);
        due("ask(0), of 5 to 10", x.ask(0), 7);
        x.seen(4, 1);
        due("ask(0), of none", x.ask(0), 0);
        due("ask(0) without a play", Theatre.of("", "a9ra").ask(0), 0);
    }

    private static void chance(String name, PromptHoles x, int[] a, long above, long below) {
        String call = name + ", slips(" + a[0] + ", " + a[1] + ", " + a[2] + ", " + a[3];
        due(call + ", 0)", x.slips(a[0], a[1], a[2], a[3], 0), above);
        due(call + ", 1)", x.slips(a[0], a[1], a[2], a[3], 1), below);
    }

    private static void slips() {
        PromptHoles x = Theatre.of("abcd", "a9ra;b9ra");
        int[][] bad = {{-1, 0, 0, 1, 0}, {17, 0, 0, 1, 0}, {0, -1, 0, 1, 0}, {0, 2, 0, 1, 0}, {0, 0, -1, 1, 0},
            {0, 0, 8, 1, 0}, {0, 0, 0, 0, 0}, {0, 0, 0, 10, 0}, {0, 0, 0, 1, -1}, {0, 0, 0, 1, 2}};
        for (int[] b : bad) {
            due("slips, bad", x.slips(b[0], b[1], b[2], b[3], b[4]), BAD_LONG);
        }
        chance("one step", x, new int[] {8, 0, 0, 1}, 1, 2);
        chance("one of two", x, new int[] {4, 0, 1, 2}, 3, 8);
        chance("none of two", x, new int[] {4, 0, 0, 2}, 9, 16);
        chance("always", x, new int[] {16, 0, 3, 3}, 1, 1);
        chance("never", x, new int[] {0, 0, 0, 9}, 1, 1);
        chance("never another", x, new int[] {0, 0, 1, 9}, 0, 1);
        chance("four of nine", x, new int[] {8, 0, 4, 9}, 63, 256);
        chance("one or nine of nine", x, new int[] {8, 0, 1, 9}, 5, 256);
        // 36 times 15 to the 7th by 16 to the 9th, in lowest terms.
        chance("two of nine", x, new int[] {1, 0, 2, 9}, 9L * 170859375L, 17179869184L);
        chance("the farther hole", x, new int[] {8, 1, 0, 9}, 1, 1);
        x.cough(1, 0);
        chance("in place of what is told", x, new int[] {0, 0, 0, 1}, 1, 1);
        chance("what is told of it counts for another", x, new int[] {8, 1, 1, 1}, 1, 1);
        x.dark(2);
        chance("dark in the last one", x, new int[] {8, 0, 0, 2}, 1, 1);
        chance("dark ahead of the last one", x, new int[] {4, 0, 1, 3}, 1, 4);
        PromptHoles none = Theatre.of("", "a9ra");
        chance("without a play", none, new int[] {8, 0, 0, 3}, 0, 1);
        due("without holes", Theatre.of("ab", "").slips(8, 0, 0, 3, 0), BAD_LONG);
    }

    private static long lot(long seed) {
        return (seed * 1103515245L + 12345L) & 0xffffffffL;
    }

    private static void evening() {
        PromptHoles x = Theatre.of("abcdefgh", "a9ra");
        due("evening(0, -1, 0)", x.evening(0, -1, 0), -2);
        due("evening(0, 40, 0)", x.evening(0, 40, 0), -2);
        due("evening(0, 0, -1)", x.evening(0, 0, -1), -2);
        due("evening(0, 0, 2)", x.evening(0, 0, 2), -2);
        for (int seed : new int[] {0, 1, 7, -1, Integer.MIN_VALUE, Integer.MAX_VALUE, 123456789}) {
            x = Theatre.of("abcdefgh", "a9ra");
            long s = seed & 0xffffffffL;
            int coughs = 0;
            int off = 0;
            for (int at = 1; at < 40; at++) {
                s = lot(lot(s));
                coughs += s / 65536 % 4 == 0 ? 1 : 0;
                off += coughs % 8 != at % 8 ? 1 : 0;
                due("evening(" + seed + ", " + at + ", 0)", x.evening(seed, at, 0), coughs % 8);
                due("evening(" + seed + ", " + at + ", 1)", x.evening(seed, at, 1), off);
            }
        }
        PromptHoles three = Theatre.of("abcdefgh", "j0ra;a9ra;j0ra");
        for (int seed = -20; seed < 20; seed++) {
            long s = seed & 0xffffffffL;
            int coughs = 0;
            for (int at = 1; at < 40; at++) {
                s = lot(s);
                boolean near = s / 65536 % 3 == 1;
                s = lot(s);
                coughs += near && s / 65536 % 4 == 0 ? 1 : 0;
            }
            due("evening(" + seed + ", 39, 0) of three holes", three.evening(seed, 39, 0), coughs % 8);
        }
        due("evening(5, 0, 0)", x.evening(5, 0, 0), 0);
        due("evening(5, 0, 1)", x.evening(5, 0, 1), 0);
        PromptHoles bare = Theatre.of("abc", "");
        bare.dark(4);
        due("evening without holes", bare.evening(3, 6, 0), 2);
        due("evening without holes, off", bare.evening(3, 6, 1), 3);
        PromptHoles none = Theatre.of("", "a9ra");
        due("evening without a play", none.evening(3, 6, 0), -1);
        due("evening without a play, off", none.evening(3, 6, 1), 0);
    }

    private static void sheet() {
        PromptHoles x = new PromptHoles();
        due("sheet(-1, 0, 1)", x.sheet(-1, 0, 1), -2);
        due("sheet(4, 0, -1)", x.sheet(4, 0, -1), -2);
        due("sheet(0, -1, -1)", x.sheet(0, -1, -1), -2);
        due("sheet(0, 3, 1)", x.sheet(0, 3, 1), -2);
        due("sheet(0, 0, 61)", x.sheet(0, 0, 61), -2);
        due("sheet, count(8)", x.count(8), 0);
        due("sheet(0, 0, -1)", x.sheet(0, 0, -1), -15);
        due("sheet, count(8) 5", x.count(8), 5);
        due("sheet, lost still", x.get(0, 0, 0), LEAST);
        due("sheet, count(8) 1", x.count(8), 1);
        due("sheet(0, 0, 60)", x.sheet(0, 0, 60), 60);
        due("lay(0, 0, 59, 5)", x.lay(0, 0, 59, 5), 1);
        due("sheet(0, 2, LEAST)", x.sheet(0, 2, LEAST), -15);
        due("sheet, as it was", x.get(0, 0, 59), 5);
        due("sheet(0, 0, 60) anew", x.sheet(0, 0, 60), 60);
        due("sheet, 0 at first", x.get(0, 0, 59), 0);
        due("sheet(3, 2, 0)", x.sheet(3, 2, 0), 0);
        due("lose(3) of no items", x.lose(3), 0);
    }

    private static void lose() {
        PromptHoles x = new PromptHoles();
        due("lose(-1)", x.lose(-1), -2);
        due("lose(4)", x.lose(4), -2);
        due("lose(0)", x.lose(0), -11);
        x.sheet(0, 1, 7);
        due("lose(0) of 7", x.lose(0), 7);
        due("lose(0) again", x.lose(0), -11);
        due("lay on a lost one", x.lay(0, 1, 0, 1), -11);
    }

    private static void lay() {
        PromptHoles x = new PromptHoles();
        due("lay(-1, 0, 0, 1)", x.lay(-1, 0, 0, 1), -2);
        due("lay(4, 0, 0, 1)", x.lay(4, 0, 0, 1), -2);
        due("lay(0, -1, 0, 1)", x.lay(0, -1, 0, 1), -2);
        due("lay(0, 3, 0, 1)", x.lay(0, 3, 0, 1), -2);
        due("lay(0, 0, 0, 1), lost", x.lay(0, 0, 0, 1), -11);
        x.sheet(0, 0, 2);
        x.sheet(1, 1, 2);
        x.sheet(2, 2, 2);
        due("lay(0, 1, 5, 1), CAST ahead of INDEX", x.lay(0, 1, 5, 1), -13);
        due("lay, count(8)", x.count(8), 3);
        due("lay(0, 0, 2, 1)", x.lay(0, 0, 2, 1), -12);
        due("lay(0, 0, -1, 1)", x.lay(0, 0, -1, 1), -12);
        due("lay, count(8) 2", x.count(8), 2);
        int[] put = {127, 128, -129, 32768, 65535, 70000, LEAST, Integer.MAX_VALUE};
        int[] bytes = {127, -128, 127, 0, -1, 112, 0, -1};
        int[] shorts = {127, 128, -129, -32768, -1, 4464, 0, -1};
        for (int i = 0; i < put.length; i++) {
            due("lay a byte", x.lay(0, 0, 1, put[i]), 1);
            due("a byte of " + put[i], x.get(0, 0, 1), bytes[i]);
            due("lay a short", x.lay(1, 1, 1, put[i]), 1);
            due("a short of " + put[i], x.get(1, 1, 1), shorts[i]);
            due("lay an int", x.lay(2, 2, 1, put[i]), 1);
            due("an int of " + put[i], x.get(2, 2, 1), put[i]);
        }
        due("lay, the other item", x.get(2, 2, 0), 0);
        due("lay, findings stay", x.count(8), 2);
    }

    private static void get() {
        PromptHoles x = new PromptHoles();
        due("get(-1, 0, 0)", x.get(-1, 0, 0), LEAST);
        due("get(4, 0, 0)", x.get(4, 0, 0), LEAST);
        due("get(0, -1, 0)", x.get(0, -1, 0), LEAST);
        due("get(0, 3, 0)", x.get(0, 3, 0), LEAST);
        due("get, BAD is no finding", x.count(8), 0);
        due("get(0, 0, 0), lost", x.get(0, 0, 0), LEAST);
        due("get, NULL", x.count(8), 1);
        x.sheet(0, 1, 3);
        due("get(0, 0, 3)", x.get(0, 0, 3), LEAST);
        due("get, CAST ahead of INDEX", x.count(8), 3);
        due("get(0, 1, 3)", x.get(0, 1, 3), LEAST);
        due("get, INDEX", x.count(8), 2);
        due("get(0, 1, -1)", x.get(0, 1, -1), LEAST);
        due("get(0, 1, 2)", x.get(0, 1, 2), 0);
    }

    private static PromptHoles sixItems() {
        PromptHoles x = new PromptHoles();
        x.sheet(0, 1, 6);
        for (int i = 0; i < 6; i++) {
            x.lay(0, 1, i, i + 1);
        }
        return x;
    }

    private static void items(String name, PromptHoles x, int s, int form, int... want) {
        for (int i = 0; i < want.length; i++) {
            due(name + ", get(" + s + ", " + form + ", " + i + ")", x.get(s, form, i), want[i]);
        }
    }

    private static void copy() {
        PromptHoles x = sixItems();
        due("copy(-1, 0, 0, 0, 0)", x.copy(-1, 0, 0, 0, 0), -2);
        due("copy(4, 0, 0, 0, 0)", x.copy(4, 0, 0, 0, 0), -2);
        due("copy(0, 0, -1, 0, 0)", x.copy(0, 0, -1, 0, 0), -2);
        due("copy(0, 0, 4, 0, 0)", x.copy(0, 0, 4, 0, 0), -2);
        due("copy(1, -1, 0, 0, 0), lost", x.copy(1, -1, 0, 0, 0), -11);
        due("copy(0, -1, 1, 0, 0), lost", x.copy(0, -1, 1, 0, 0), -11);
        x.sheet(1, 0, 6);
        due("copy(0, -1, 1, 0, 0), STORE ahead of INDEX", x.copy(0, -1, 1, 0, 0), -14);
        due("copy, count(8)", x.count(8), 4);
        x.sheet(1, 1, 3);
        int[][] off = {{-1, 0, 1}, {0, -1, 1}, {0, 0, -1}, {4, 0, 3}, {0, 1, 3}, {7, 0, 0}, {0, 4, 0},
            {Integer.MAX_VALUE, 0, 1}, {0, Integer.MAX_VALUE, 1}, {1, 1, Integer.MAX_VALUE},
            {LEAST, 0, 1}, {0, LEAST, 1}, {0, 0, LEAST}};
        for (int[] o : off) {
            due("copy(0, " + o[0] + ", 1, " + o[1] + ", " + o[2] + ")", x.copy(0, o[0], 1, o[1], o[2]), -12);
        }
        items("copy, nothing changed", x, 1, 1, 0, 0, 0);
        due("copy(0, 6, 1, 3, 0)", x.copy(0, 6, 1, 3, 0), 1);
        due("copy(0, 4, 1, 1, 2)", x.copy(0, 4, 1, 1, 2), 1);
        items("copy to another", x, 1, 1, 0, 5, 6);
        due("copy(0, 0, 0, 2, 4)", x.copy(0, 0, 0, 2, 4), 1);
        items("copy behind itself", x, 0, 1, 1, 2, 1, 2, 3, 4);
        x = sixItems();
        due("copy(0, 2, 0, 0, 4)", x.copy(0, 2, 0, 0, 4), 1);
        items("copy ahead of itself", x, 0, 1, 3, 4, 5, 6, 5, 6);
    }

    private static void write() {
        PromptHoles x = Theatre.of("abc", "a0nh");
        x.move(3, 5);
        due("write(-1, 0)", x.write(-1, 0), -2);
        due("write(2, 0)", x.write(2, 0), -2);
        due("write(0, -1)", x.write(0, -1), -2);
        due("write(0, 4)", x.write(0, 4), -2);
        due("write(0, 0), lost", x.write(0, 0), -11);
        x.sheet(0, 0, 6);
        due("write(0, 0)", x.write(0, 0), 6);
        items("write the lines", x, 0, 0, 0, 1, 2, 0, 1, 2);
        due("write(1, 0)", x.write(1, 0), 6);
        items("write by which hole", x, 0, 0, -1, 0, 0, 0, -1, -1);
        x.sheet(1, 2, 60);
        x.lay(1, 2, 40, 99);
        due("write(0, 1), 40 at most", x.write(0, 1), 40);
        due("write, item 39", x.get(1, 2, 39), 0);
        due("write, item 40", x.get(1, 2, 40), 99);
        x.sheet(2, 1, 0);
        due("write(0, 2) of no items", x.write(0, 2), 0);
        x.wipe(0);
        due("write(0, 0) without a play", x.write(0, 0), 6);
        items("write without a play", x, 0, 0, -1, -1, -1, -1, -1, -1);
    }

    private static void count() {
        PromptHoles x = Theatre.of("abc", "a0na;b0nb");
        x.move(0, 1);
        x.cough(1, 1);
        x.cough(1, 1);
        x.dark(1);
        x.dark(1);
        x.dark(1);
        x.seen(1, 1);
        x.seen(1, 1);
        x.seen(1, 1);
        x.seen(1, 1);
        int[] want = {3, 2, 3, 9, 1, 2, 3, 4, 0};
        for (int what = 0; what < want.length; what++) {
            due("count(" + what + ")", x.count(what), want[what]);
        }
        due("count(-1)", x.count(-1), -2);
        due("count(9)", x.count(9), -2);
        x.type(0, '!');
        x.type(1, '!');
        due("count(0) with a fault", x.count(0), 0);
        due("count(1) with a fault", x.count(1), 0);
        due("count(2) with a fault", x.count(2), 4);
        due("count(3) with a fault", x.count(3), 10);
    }

    private static void digest() {
        PromptHoles x = Theatre.of("abcabd", "a2na;c1rb;e9ye");
        x.move(2, 3);
        x.cough(3, 1);
        x.dark(8);
        x.seen(3, 1);
        digestOf("a whole theatre", x);
        digestOf("new", new PromptHoles());
        digestOf("no holes", Theatre.of("abc", ""));
        digestOf("no play", Theatre.of("", "a2na"));
        digestOf("faults", Theatre.of("abx", "a2n"));
        long once = x.digest();
        x.lose(0);
        due("digest is the same again, a finding is not in it", x.digest(), once);
        due("digest, count(8) stays", x.count(8), 1);
        x.seen(4, 1);
        CHECK.holds("digest is another one", x.digest() != once);
    }

    private static void digestOf(String name, PromptHoles x) {
        long h = 17;
        for (int what = 0; what < 8; what++) h = 31 * h + x.count(what);
        h = (31 * h + x.fault(0)) * 31 + x.fault(1);
        for (int l = 0; l < 8; l++) {
            h = (31 * h + x.printed(l, 0)) * 31 + x.printed(l, 1);
            h = (31 * h + x.often(l, 0)) * 31 + x.often(l, 1);
            h = (31 * h + x.slips(5, 0, l, 5, 0)) * 31 + x.slips(5, 0, l, 5, 1);
            for (int what = 0; what < 3; what++) h = 31 * h + x.prompt(3, 6, l, what);
        }
        for (int i = 0; i < x.count(1); i++) {
            for (int what = 0; what < 4; what++) h = 31 * h + x.hole(i, what);
            h = ((31 * h + x.whispers(3, i)) * 31 + x.coughed(i)) * 31 + x.ask(i);
        }
        for (int s : new int[] {0, 1, 2, 9, 39}) {
            for (int what = 0; what < 4; what++) h = 31 * h + x.step(s, what);
            h = ((31 * h + x.may(3, s)) * 31 + x.evening(7, s, 0)) * 31 + x.evening(7, s, 1);
        }
        h = (((31 * h + x.drift(0)) * 31 + x.drift(1)) * 31 + x.round()) * 31 + x.filed();
        due("digest, " + name, x.digest(), h);
    }
}
