import java.util.ArrayList;
import java.util.List;

/**
 * "Refusals, the first that fits, in the order told at each act. They change nothing (FINDINGS but
 * count() 8)": every refusal of every call, asked of one of two twins, which stay alike.
 */
public final class RefusalsTest {
    private static final Check CHECK = new Check("RefusalsTest");
    private static final String[] KINDS = {"new", "half full", "full"};
    /** Of each kind, what a twin shows that was asked nothing. */
    private static final List<List<String>> PORTRAITS = new ArrayList<>();

    public static void main(String[] args) {
        for (int kind = 0; kind < KINDS.length; kind++) {
            PORTRAITS.add(portrait(theatre(kind)));
        }
        for (int kind = 0; kind < KINDS.length; kind++) {
            outOfRange(kind);
        }
        not();
        full();
        lost();
        findings();
        badFirst();
        nullFirst();
        castFirst();
        storeFirst();
        asLong();
        CHECK.end();
    }

    /** Kinds of theatres: 0 new, 1 with something of each kind and room for more, 2 full. */
    private static PromptHoles theatre(int kind) {
        PromptHoles x = new PromptHoles();
        if (kind == 0) {
            return x;
        }
        boolean full = kind == 2;
        Theatre.typeAll(x, 0, full ? Theatre.FULL_PLAY : "abcde");
        Theatre.typeAll(x, 1, full ? Theatre.NINE_HOLES : "a2na;c3ra;e4yc");
        for (int i = 0; i < (full ? 12 : 3); i++) {
            x.move(3 * i + 1, 7 * i % 10);
            x.cough(2 * i + 1, i % 9);
        }
        for (int i = 0; i < (full ? 6 : 2); i++) {
            x.dark(6 * i + 5);
        }
        for (int i = 0; i < (full ? 8 : 1); i++) {
            x.seen(i, 0);
        }
        sheets(x);
        return x;
    }

    /** Sheet 0: 60 bytes, 1: 3 shorts, 2: no ints, 3 is lost. */
    private static void sheets(PromptHoles x) {
        x.sheet(0, 0, 60);
        x.sheet(1, 1, 3);
        x.sheet(2, 2, 0);
        for (int i = 0; i < 4; i++) {
            x.lay(0, 0, i, i + 1);
            x.lay(0, 0, 59 - i, 50 + i);
        }
        x.lay(1, 1, 0, 1000);
        x.lay(1, 1, 2, -1000);
    }

    /** All that can be seen of an object, which is used up by it; with setting up below 512 calls. */
    private static List<String> portrait(PromptHoles x) {
        List<String> rows = new ArrayList<>();
        for (int what = 0; what < 8; what++) {
            rows.add("count(" + what + ") " + x.count(what));
        }
        rows.add("digest() " + x.digest());
        rows.add("played " + Theatre.played(x));
        rows.add("stands " + Theatre.stands(x));
        for (int place = 0; place < 24; place++) {
            rows.add("line(" + place + ") " + x.line(place));
        }
        for (int i = 0; i < 60; i++) {
            rows.add("get(0, 0, " + i + ") " + x.get(0, 0, i));
        }
        for (int i = 0; i < 3; i++) {
            rows.add("get(1, 1, " + i + ") " + x.get(1, 1, i));
        }
        for (int s = 0; s < 4; s++) {
            rows.add("lose(" + s + ") " + x.lose(s));
        }
        unmake(x, rows);
        return rows;
    }

    /** What was told is taken back one by one, so that the order shows in which it is kept. */
    private static void unmake(PromptHoles x, List<String> rows) {
        int[] most = {12, 12, 6};
        for (int what = 2; what >= 0; what--) {
            for (int i = 0; i <= most[what]; i++) {
                rows.add("back(" + what + ") " + x.back(what) + ", digest() " + x.digest());
            }
        }
        rows.add("forget() " + x.forget() + ", digest() " + x.digest());
        for (int i = 0; i < 5; i++) {
            rows.add("undo(1) " + x.undo(1) + ", digest() " + x.digest());
        }
        rows.add("wipe(1) " + x.wipe(1) + ", digest() " + x.digest());
        for (int i = 0; i < 5; i++) {
            rows.add("undo(0) " + x.undo(0) + ", digest() " + x.digest());
        }
        rows.add("wipe(0) " + x.wipe(0) + ", digest() " + x.digest());
    }

    /** A refusal is answered, and all is as it is in a twin that was not asked. */
    private static void refused(int kind, long want, String call, int... arguments) {
        PromptHoles x = theatre(kind);
        String name = KINDS[kind] + ", " + Theatre.told(call, arguments);
        CHECK.due(name, Theatre.ask(x, call, arguments), want);
        long finding = want <= -11 && want >= -15 ? -10 - want : 0;
        CHECK.due(name + ", count(8)", x.count(8), finding);
        unchanged(kind, name, x);
    }

    private static void unchanged(int kind, String name, PromptHoles x) {
        List<String> due = PORTRAITS.get(kind);
        List<String> got = portrait(x);
        for (int i = 0; i < due.size(); i++) {
            if (!got.get(i).equals(due.get(i))) {
                CHECK.same(name + " changed something", got.get(i), due.get(i));
                return;
            }
        }
        CHECK.holds(name + " changes nothing", true);
    }

    private static long bad(String call) {
        return call.equals("slips") ? Theatre.BAD_LONG : call.equals("get") ? Theatre.LEAST : -2;
    }

    private static void outOfRange(int kind) {
        for (Ranges.Range r : Ranges.of(kind == 1 ? 3 : 9)) {
            CHECK.says(KINDS[kind] + ": BAD changes nothing: " + r.call() + "(), number " + r.place());
            for (int number : r.outside()) {
                refused(kind, bad(r.call()), r.call(), r.with(number));
            }
        }
        CHECK.says(KINDS[kind] + ": BAD changes nothing: sheet() above 60");
        refused(kind, -2, "sheet", 0, 0, 61);
        refused(kind, -2, "sheet", 0, 0, Theatre.GREATEST);
    }

    private static void not() {
        CHECK.says("NOT changes nothing: undo() of an empty text, back() of none");
        for (int text = 0; text < 2; text++) {
            refused(0, -3, "undo", text);
        }
        for (int what = 0; what < 3; what++) {
            refused(0, -3, "back", what);
        }
    }

    private static void full() {
        CHECK.says("FULL changes nothing: type(), move(), cough(), dark(), seen()");
        refused(2, -4, "type", 0, 'a');
        refused(2, -4, "type", 0, 0);
        refused(2, -4, "type", 1, ';');
        refused(2, -4, "type", 1, 255);
        refused(2, -4, "move", 0, 9);
        refused(2, -4, "move", 39, 9);
        refused(2, -4, "cough", 1, 1);
        refused(2, -4, "cough", 39, 8);
        refused(2, -4, "dark", 0);
        refused(2, -4, "dark", 39);
        refused(2, -4, "seen", 0, 7);
        refused(2, -4, "seen", 39, 0);
    }

    private static void lost() {
        CHECK.says("NULL changes nothing but count() 8: read(), lose(), lay(), get(), copy(), write()");
        for (int kind = 0; kind < KINDS.length; kind++) {
            refused(kind, -11, "read", 3);
            refused(kind, -11, "lose", 3);
            refused(kind, -11, "lay", 3, 0, 0, 1);
            got(kind, 1, 3, 0, 0);
            refused(kind, -11, "copy", 3, 0, 0, 0, 1);
            refused(kind, -11, "copy", 0, 0, 3, 0, 1);
            refused(kind, -11, "copy", 3, 0, 3, 0, 1);
            refused(kind, -11, "write", 0, 3);
            refused(kind, -11, "write", 1, 3);
        }
    }

    /** Of get() the answer does not tell which finding it was: count() 8 does. */
    private static void got(int kind, int finding, int... arguments) {
        PromptHoles x = theatre(kind);
        String name = KINDS[kind] + ", " + Theatre.told("get", arguments);
        CHECK.due(name, Theatre.ask(x, "get", arguments), Theatre.LEAST);
        CHECK.due(name + ", count(8)", x.count(8), finding);
        unchanged(kind, name, x);
    }

    private static void findings() {
        CHECK.says("CAST, INDEX, STORE, SIZE change nothing but count() 8");
        for (int kind = 1; kind < KINDS.length; kind++) {
            refused(kind, -13, "lay", 0, 1, 0, 9);
            refused(kind, -13, "lay", 1, 2, 0, 9);
            got(kind, 3, 1, 0, 0);
            for (int i : new int[] {-1, 60, Theatre.LEAST, Theatre.GREATEST}) {
                refused(kind, -12, "lay", 0, 0, i, 9);
                got(kind, 2, 0, 0, i);
            }
            refused(kind, -12, "lay", 1, 1, 3, 9);
            refused(kind, -12, "lay", 2, 2, 0, 9);
            refused(kind, -12, "copy", 0, 0, 0, 1, 60);
            refused(kind, -12, "copy", 0, -1, 0, 1, 2);
            refused(kind, -12, "copy", 0, 1, 0, -1, 2);
            refused(kind, -12, "copy", 0, 1, 0, 2, -1);
            refused(kind, -12, "copy", 1, 0, 1, 1, 3);
            refused(kind, -14, "copy", 0, 0, 1, 0, 1);
            refused(kind, -14, "copy", 1, 0, 0, 0, 1);
            for (int form = 0; form < 3; form++) {
                refused(kind, -15, "sheet", 0, form, -1);
                refused(kind, -15, "sheet", 3, form, Theatre.LEAST);
            }
        }
        refused(0, -15, "sheet", 0, 0, -1);
    }

    private static void badFirst() {
        CHECK.says("the first that fits: BAD ahead of FULL");
        refused(2, -2, "type", 0, 256);
        refused(2, -2, "type", 1, -1);
        refused(2, -2, "move", 40, 0);
        refused(2, -2, "move", 0, 10);
        refused(2, -2, "cough", -1, 0);
        refused(2, -2, "cough", 0, 9);
        refused(2, -2, "dark", 40);
        refused(2, -2, "seen", 40, 0);
        refused(2, -2, "seen", 0, 8);
        CHECK.says("the first that fits: BAD ahead of NOT");
        refused(0, -2, "undo", 2);
        refused(0, -2, "undo", -1);
        refused(0, -2, "back", 3);
        refused(0, -2, "back", -1);
        CHECK.says("the first that fits: BAD ahead of NULL, CAST, INDEX");
        refused(0, -2, "read", 4);
        refused(0, -2, "lose", 4);
        refused(0, -2, "lay", 3, 3, -1, 1);
        refused(0, -2, "lay", 4, 0, -1, 1);
        refused(1, -2, "lay", 0, 3, -1, 1);
        refused(0, Theatre.LEAST, "get", 3, 3, -1);
        refused(0, Theatre.LEAST, "get", -1, 0, -1);
        refused(0, -2, "write", 2, 3);
        refused(0, -2, "write", -1, 3);
        refused(0, -2, "write", 0, 4);
        CHECK.says("the first that fits: BAD (either SHEET) ahead of NULL, STORE, INDEX");
        refused(0, -2, "copy", 4, -1, 3, -1, -1);
        refused(0, -2, "copy", 3, -1, 4, -1, -1);
        refused(1, -2, "copy", 0, -1, -1, -1, -1);
        refused(1, -2, "copy", -1, -1, 1, -1, -1);
        CHECK.says("the first that fits: BAD (SHEET, FORM) ahead of SIZE");
        refused(1, -2, "sheet", 4, 0, -1);
        refused(1, -2, "sheet", 0, 3, -1);
        refused(1, -2, "sheet", -1, -1, Theatre.LEAST);
    }

    private static void nullFirst() {
        CHECK.says("the first that fits: NULL ahead of CAST, INDEX");
        for (int form = 0; form < 3; form++) {
            refused(1, -11, "lay", 3, form, -1, 1);
            refused(1, -11, "lay", 3, form, 60, 1);
            got(1, 1, 3, form, -1);
            got(1, 1, 3, form, 60);
        }
        CHECK.says("the first that fits: NULL (s, t) ahead of STORE, INDEX");
        for (int other = 0; other < 3; other++) {
            refused(1, -11, "copy", 3, -1, other, -1, -1);
            refused(1, -11, "copy", other, -1, 3, -1, -1);
        }
        refused(1, -11, "copy", 3, -1, 3, -1, -1);
    }

    private static void castFirst() {
        CHECK.says("the first that fits: CAST ahead of INDEX");
        for (int i : new int[] {-1, 60, Theatre.LEAST, Theatre.GREATEST}) {
            refused(1, -13, "lay", 0, 1, i, 1);
            refused(1, -13, "lay", 2, 0, i, 1);
            got(1, 3, 0, 2, i);
            got(1, 3, 2, 1, i);
        }
    }

    private static void storeFirst() {
        CHECK.says("the first that fits: STORE ahead of INDEX");
        refused(1, -14, "copy", 0, -1, 1, 0, 1);
        refused(1, -14, "copy", 0, 0, 1, -1, 1);
        refused(1, -14, "copy", 0, 0, 1, 0, -1);
        refused(1, -14, "copy", 0, 0, 1, 0, 61);
        refused(1, -14, "copy", 2, 0, 0, 0, 1);
    }

    private static void asLong() {
        CHECK.says("Where the answer is a long, a refusal -x is the least long and x more");
        PromptHoles x = theatre(0);
        CHECK.due("slips(0, 0, 0, 1, 0) without holes", x.slips(0, 0, 0, 1, 0), Long.MIN_VALUE + 2);
        CHECK.due("slips of the least ints", x.slips(Theatre.LEAST, Theatre.LEAST, Theatre.LEAST, Theatre.LEAST, Theatre.LEAST),
            Long.MIN_VALUE + 2);
        CHECK.due("slips of the greatest ints",
            x.slips(Theatre.GREATEST, Theatre.GREATEST, Theatre.GREATEST, Theatre.GREATEST, Theatre.GREATEST), Long.MIN_VALUE + 2);
    }
}
