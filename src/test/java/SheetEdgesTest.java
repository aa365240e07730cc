import java.math.BigInteger;

/** The edges that the document names of SHEETS, of count() and of digest() (promises 28 to 35). */
public final class SheetEdgesTest {
    private static final Check CHECK = new Check("SheetEdgesTest");
    private static final int LEAST = Theatre.LEAST;
    private static final int GREATEST = Theatre.GREATEST;

    public static void main(String[] args) {
        lostAtFirst();
        sizes();
        anew();
        lose();
        index();
        lowestBits();
        leastItem();
        cast();
        copyIndex();
        copyAsTheyWere();
        copyStore();
        write();
        writeForms();
        count();
        latestFinding();
        digest();
        lastCall();
        CHECK.end();
    }

    private static void lostAtFirst() {
        CHECK.says("SHEETS 0 .. 3 are LOST (at first); 1 NULL: -11");
        for (int s = 0; s < 4; s++) {
            PromptHoles x = new PromptHoles();
            lost("sheet " + s, x, s);
        }
        CHECK.says("a SHEET that was lost is LOST again");
        for (int s = 0; s < 4; s++) {
            PromptHoles x = new PromptHoles();
            for (int t = 0; t < 4; t++) {
                x.sheet(t, 0, 60);
            }
            x.lose(s);
            lost("sheet " + s + " of four", x, s);
            CHECK.due("the others are not", x.lose((s + 1) % 4), 60);
        }
    }

    /** Every call on a lost sheet, each with the number of its finding. */
    private static void lost(String name, PromptHoles x, int s) {
        CHECK.due(name + ", lose", x.lose(s), -11);
        CHECK.due(name + ", count(8)", x.count(8), 1);
        CHECK.due(name + ", read", x.read(s), -11);
        CHECK.due(name + ", write lines", x.write(0, s), -11);
        CHECK.due(name + ", write holes", x.write(1, s), -11);
        for (int form = 0; form < 3; form++) {
            CHECK.due(name + ", lay", x.lay(s, form, 0, 1), -11);
            CHECK.due(name + ", get", x.get(s, form, 0), LEAST);
            CHECK.due(name + ", count(8) behind get", x.count(8), 1);
        }
        int other = (s + 1) % 4;
        x.sheet(other, 0, 60);
        CHECK.due(name + ", copy from it", x.copy(s, 0, other, 0, 0), -11);
        CHECK.due(name + ", copy to it", x.copy(other, 0, s, 0, 0), -11);
        CHECK.due(name + ", copy to itself", x.copy(s, 0, s, 0, 0), -11);
        CHECK.due(name + ", count(8) behind copy", x.count(8), 1);
    }

    private static void sizes() {
        CHECK.says("28: of 0 to 60 items: n; above 60 BAD; below 0 SIZE");
        for (int form = 0; form < 3; form++) {
            for (int s = 0; s < 4; s++) {
                PromptHoles x = new PromptHoles();
                CHECK.due("sheet of 61", x.sheet(s, form, 61), -2);
                CHECK.due("sheet of the greatest", x.sheet(s, form, GREATEST), -2);
                CHECK.due("count(8), BAD is no finding", x.count(8), 0);
                CHECK.due("sheet of -1", x.sheet(s, form, -1), -15);
                CHECK.due("count(8)", x.count(8), 5);
                CHECK.due("sheet of the least", x.sheet(s, form, LEAST), -15);
                CHECK.due("lost still", x.lose(s), -11);
                CHECK.due("sheet of 0", x.sheet(s, form, 0), 0);
                CHECK.due("its items", x.lose(s), 0);
                CHECK.due("sheet of 60", x.sheet(s, form, 60), 60);
                CHECK.due("its items", x.lose(s), 60);
            }
        }
        CHECK.says("28: a SHEET that is refused stays as it was");
        PromptHoles x = new PromptHoles();
        x.sheet(0, 1, 60);
        x.lay(0, 1, 59, 7);
        CHECK.due("sheet(0, 0, -1)", x.sheet(0, 0, -1), -15);
        CHECK.due("sheet(0, 0, 61)", x.sheet(0, 0, 61), -2);
        CHECK.due("sheet(0, 3, 1)", x.sheet(0, 3, 1), -2);
        CHECK.due("get(0, 1, 59)", x.get(0, 1, 59), 7);
        CHECK.due("lose(0)", x.lose(0), 60);
    }

    private static void anew() {
        CHECK.says("SHEETS: items (0 at first), in a new row as well");
        PromptHoles x = new PromptHoles();
        for (int s = 0; s < 4; s++) {
            int form = s % 3;
            x.sheet(s, form, 60);
            CHECK.due("item 0", x.get(s, form, 0), 0);
            CHECK.due("item 59", x.get(s, form, 59), 0);
            x.lay(s, form, 0, 1);
            x.lay(s, form, 59, 2);
            x.sheet(s, form, 60);
            CHECK.due("item 0 of a new row", x.get(s, form, 0), 0);
            CHECK.due("item 59 of a new row", x.get(s, form, 59), 0);
            x.lay(s, form, 0, 1);
            x.lay(s, form, 59, 2);
            x.lose(s);
            x.sheet(s, form, 60);
            CHECK.due("item 0 behind a lost one", x.get(s, form, 0), 0);
            CHECK.due("item 59 behind a lost one", x.get(s, form, 59), 0);
            x.lay(s, form, 0, 1);
            x.sheet(s, (form + 1) % 3, 60);
            CHECK.due("item 0 of another form", x.get(s, (form + 1) % 3, 0), 0);
        }
    }

    private static void lose() {
        CHECK.says("29: it is LOST: how many items it had (0, 1, 60); NULL");
        PromptHoles x = new PromptHoles();
        for (int n : new int[] {0, 1, 59, 60}) {
            x.sheet(3, 2, n);
            CHECK.due("lose(3) of " + n, x.lose(3), n);
            CHECK.due("lose(3) again", x.lose(3), -11);
        }
    }

    private static void index() {
        CHECK.says("2 INDEX: there is no such item (-12): of 0 items, of 1, of 60");
        for (int form = 0; form < 3; form++) {
            for (int n : new int[] {0, 1, 60}) {
                for (int s = 0; s < 4; s++) {
                    PromptHoles x = new PromptHoles();
                    x.sheet((s + 1) % 4, form, 60);
                    x.sheet(s, form, n);
                    for (int i : new int[] {-1, n, LEAST, GREATEST, 60, 120}) {
                        CHECK.due("lay, item " + i + " of " + n, x.lay(s, form, i, 9), -12);
                        CHECK.due("count(8)", x.count(8), 2);
                        CHECK.due("get, item " + i + " of " + n, x.get(s, form, i), LEAST);
                    }
                    for (int i = 0; i < n; i += 59) {
                        CHECK.due("lay, item " + i + " of " + n, x.lay(s, form, i, i + 1), 1);
                        CHECK.due("get, item " + i + " of " + n, x.get(s, form, i), i + 1);
                    }
                }
            }
        }
        CHECK.says("30, 31: the first item and the last of each SHEET are its own");
        PromptHoles x = new PromptHoles();
        for (int s = 0; s < 4; s++) {
            x.sheet(s, 2, 60);
            x.lay(s, 2, 0, 10 * s + 1);
            x.lay(s, 2, 59, 10 * s + 2);
        }
        for (int s = 0; s < 4; s++) {
            CHECK.due("get(" + s + ", 2, 0)", x.get(s, 2, 0), 10 * s + 1);
            CHECK.due("get(" + s + ", 2, 59)", x.get(s, 2, 59), 10 * s + 2);
        }
    }

    private static void lowestBits() {
        CHECK.says("30: becomes v (the lowest bits that it has)");
        int[] laid = {0, 1, -1, 127, 128, 129, 255, 256, -128, -129, 32767, 32768, 65535, 65536, -32768, -32769, LEAST, GREATEST};
        int[] bytes = {0, 1, -1, 127, -128, -127, -1, 0, -128, 127, -1, 0, -1, 0, 0, -1, 0, -1};
        int[] shorts = {0, 1, -1, 127, 128, 129, 255, 256, -128, -129, 32767, -32768, -1, 0, -32768, 32767, 0, -1};
        PromptHoles x = new PromptHoles();
        for (int form = 0; form < 3; form++) {
            x.sheet(form, form, 60);
        }
        for (int i = 0; i < laid.length; i++) {
            int item = i % 2 == 0 ? 0 : 59;
            int[] due = {bytes[i], shorts[i], laid[i]};
            for (int form = 0; form < 3; form++) {
                CHECK.due("lay(" + form + ", .., " + laid[i] + ")", x.lay(form, form, item, laid[i]), 1);
                CHECK.due("get of " + laid[i] + ", form " + form, x.get(form, form, item), due[form]);
            }
        }
    }

    private static void leastItem() {
        CHECK.says("31: BAD: the least int; so are NULL, CAST, INDEX (count() 8 tells), but so may an item be");
        PromptHoles x = new PromptHoles();
        x.sheet(1, 2, 60);
        x.lay(1, 2, 59, LEAST);
        CHECK.due("an item", x.get(1, 2, 59), LEAST);
        CHECK.due("count(8), no finding", x.count(8), 0);
        CHECK.due("BAD", x.get(4, 2, 59), LEAST);
        CHECK.due("BAD", x.get(1, 3, 59), LEAST);
        CHECK.due("count(8), no finding", x.count(8), 0);
        CHECK.due("NULL", x.get(0, 2, 59), LEAST);
        CHECK.due("count(8), NULL", x.count(8), 1);
        CHECK.due("CAST", x.get(1, 1, 59), LEAST);
        CHECK.due("count(8), CAST", x.count(8), 3);
        CHECK.due("INDEX", x.get(1, 2, 60), LEAST);
        CHECK.due("count(8), INDEX", x.count(8), 2);
    }

    private static void cast() {
        CHECK.says("3 CAST: it has another FORM (-13)");
        for (int form = 0; form < 3; form++) {
            for (int as = 0; as < 3; as++) {
                PromptHoles x = new PromptHoles();
                x.sheet(2, form, 60);
                CHECK.due("lay, " + form + " as " + as, x.lay(2, as, 59, 5), form == as ? 1 : -13);
                CHECK.due("count(8)", x.count(8), form == as ? 0 : 3);
                PromptHoles y = new PromptHoles();
                y.sheet(2, form, 60);
                CHECK.due("get, " + form + " as " + as, y.get(2, as, 59), form == as ? 0 : LEAST);
                CHECK.due("count(8)", y.count(8), form == as ? 0 : 3);
            }
        }
    }

    private static PromptHoles two(int many, int other) {
        PromptHoles x = new PromptHoles();
        x.sheet(0, 2, many);
        x.sheet(3, 2, other);
        for (int i = 0; i < many; i++) {
            x.lay(0, 2, i, i + 1);
        }
        return x;
    }

    private static void copyIndex() {
        CHECK.says("32: INDEX: below 0, not so many (none at all, all, one more)");
        int[][] well = {{0, 0, 0}, {6, 0, 0}, {0, 3, 0}, {6, 3, 0}, {0, 0, 3}, {3, 0, 3}, {5, 2, 1}, {0, 2, 1}};
        for (int[] w : well) {
            CHECK.due(Theatre.told("copy", 0, w[0], 3, w[1], w[2]), two(6, 3).copy(0, w[0], 3, w[1], w[2]), 1);
        }
        int[][] off = {{-1, 0, 0}, {0, -1, 0}, {0, 0, -1}, {7, 0, 0}, {0, 4, 0}, {6, 0, 1}, {0, 3, 1}, {4, 0, 3}, {0, 1, 3},
            {0, 0, 4}, {0, 0, 7}, {LEAST, 0, 0}, {0, LEAST, 0}, {0, 0, LEAST}, {GREATEST, 0, 0}, {0, GREATEST, 0},
            {0, 0, GREATEST}, {1, 0, GREATEST}, {0, 1, GREATEST}, {GREATEST, 0, GREATEST}, {0, GREATEST, GREATEST},
            {GREATEST, GREATEST, 2}, {LEAST, 0, LEAST}, {LEAST, LEAST, GREATEST}, {-1, -1, 1}, {-1, 0, 2}, {0, -1, 2}};
        for (int[] o : off) {
            PromptHoles x = two(6, 3);
            CHECK.due(Theatre.told("copy", 0, o[0], 3, o[1], o[2]), x.copy(0, o[0], 3, o[1], o[2]), -12);
            CHECK.due("count(8)", x.count(8), 2);
            CHECK.same("nothing came", items(x, 3, 3), "0 0 0 ");
        }
        CHECK.says("32: SHEETS of 0 items and of 60");
        CHECK.due("none of none", two(0, 0).copy(0, 0, 3, 0, 0), 1);
        CHECK.due("one of none", two(0, 60).copy(0, 0, 3, 0, 1), -12);
        CHECK.due("one to none", two(60, 0).copy(0, 0, 3, 0, 1), -12);
        PromptHoles all = two(60, 60);
        CHECK.due("60 of 60", all.copy(0, 0, 3, 0, 60), 1);
        CHECK.due("the first", all.get(3, 2, 0), 1);
        CHECK.due("the last", all.get(3, 2, 59), 60);
        CHECK.due("61 of 60", all.copy(0, 0, 3, 0, 61), -12);
        CHECK.due("the last to the first", all.copy(0, 59, 3, 0, 1), 1);
        CHECK.due("the first to the last", all.copy(0, 0, 3, 59, 1), 1);
        CHECK.due("the last at the first", all.get(3, 2, 0), 60);
        CHECK.due("the first at the last", all.get(3, 2, 59), 1);
    }

    private static String items(PromptHoles x, int s, int many) {
        StringBuilder items = new StringBuilder();
        for (int i = 0; i < many; i++) {
            items.append(x.get(s, 2, i)).append(' ');
        }
        return items.toString();
    }

    private static void copyAsTheyWere() {
        CHECK.says("32: to SHEET t (perhaps s, as they were): all places, all lengths");
        for (int from = 0; from <= 5; from++) {
            for (int to = 0; to <= 5; to++) {
                for (int n = 0; n <= 5 - Math.max(from, to); n++) {
                    PromptHoles x = two(5, 5);
                    int[] due = {1, 2, 3, 4, 5};
                    System.arraycopy(due.clone(), from, due, to, n);
                    StringBuilder want = new StringBuilder();
                    for (int item : due) {
                        want.append(item).append(' ');
                    }
                    CHECK.due(Theatre.told("copy", 0, from, 0, to, n), x.copy(0, from, 0, to, n), 1);
                    CHECK.same("its items", items(x, 0, 5), want.toString());
                }
            }
        }
        CHECK.says("32: n items come, no more, and the SHEET that they come from stays");
        PromptHoles x = two(5, 4);
        x.copy(0, 2, 3, 1, 2);
        CHECK.same("t", items(x, 3, 4), "0 3 4 0 ");
        CHECK.same("s", items(x, 0, 5), "1 2 3 4 5 ");
    }

    private static void copyStore() {
        CHECK.says("4 STORE: unlike FORMS (-14), even of no items");
        for (int form = 0; form < 3; form++) {
            for (int other = 0; other < 3; other++) {
                for (int n = 0; n <= 60; n += 60) {
                    PromptHoles x = new PromptHoles();
                    x.sheet(1, form, n);
                    x.sheet(2, other, n);
                    CHECK.due("copy, " + form + " to " + other, x.copy(1, 0, 2, 0, n), form == other ? 1 : -14);
                    CHECK.due("count(8)", x.count(8), form == other ? 0 : 4);
                }
            }
        }
    }

    private static void write() {
        CHECK.says("33: as many as there are items, 40 at most: how many (0, 1, 39, 40, 41, 60)");
        for (int n : new int[] {0, 1, 39, 40, 41, 60}) {
            // In 39 alone it is played by hole 0, and what is printed next all the same.
            PromptHoles x = Theatre.of("bcdefgha", "j0na");
            x.move(38, 9);
            x.sheet(2, 2, n);
            for (int i = 40; i < n; i++) {
                x.lay(2, 2, i, 99);
            }
            int many = Math.min(n, 40);
            for (int what = 0; what < 2; what++) {
                CHECK.due("write(" + what + ", 2) of " + n, x.write(what, 2), many);
                for (int step = 0; step < many; step += Math.max(many - 1, 1)) {
                    CHECK.due("item " + step, x.get(2, 2, step), what == 0 ? (step + 1) % 8 : step == 39 ? 0 : -1);
                }
                for (int i = 40; i < n; i++) {
                    CHECK.due("item " + i + " stays", x.get(2, 2, i), 99);
                }
            }
            CHECK.due("its items", x.lose(2), n);
        }
    }

    private static void writeForms() {
        CHECK.says("33: NONE (without a PLAY; by no hole) comes to each FORM as -1");
        for (int form = 0; form < 3; form++) {
            PromptHoles x = Theatre.of("", "a9ra");
            x.sheet(0, form, 60);
            x.write(0, 0);
            CHECK.due("no play, the first item", x.get(0, form, 0), -1);
            CHECK.due("no play, item 39", x.get(0, form, 39), -1);
            CHECK.due("no play, item 40", x.get(0, form, 40), 0);
            PromptHoles y = Theatre.of("h", "j0ra;".repeat(8) + "a9rh");
            y.sheet(3, form, 40);
            y.write(1, 3);
            CHECK.due("by none in STEP 0", y.get(3, form, 0), -1);
            CHECK.due("by hole 8 in STEP 1", y.get(3, form, 1), 8);
            CHECK.due("by hole 8 in STEP 39", y.get(3, form, 39), 8);
            y.write(0, 3);
            CHECK.due("h in STEP 0", y.get(3, form, 0), 7);
            CHECK.due("h in STEP 39", y.get(3, form, 39), 7);
        }
    }

    private static void count() {
        CHECK.says("34: 0 LINES, 1 holes, 2, 3 bytes, 4 MOVES, 5 COUGHS, 6 DARK, 7 SEEN: the most of each");
        PromptHoles x = Theatre.of(Theatre.FULL_PLAY, Theatre.NINE_HOLES);
        for (int i = 0; i < 13; i++) {
            x.move(0, 0);
            x.cough(0, 0);
            x.dark(0);
            x.seen(0, 0);
        }
        int[] most = {24, 9, 24, 44, 12, 12, 6, 8, 0};
        for (int what = 0; what <= 8; what++) {
            CHECK.due("count(" + what + ")", x.count(what), most[what]);
        }
        CHECK.says("34: with a FAULT there are no LINES and no holes, but bytes");
        x.undo(0);
        x.type(0, 'i');
        x.undo(1);
        int[] with = {0, 0, 24, 43};
        for (int what = 0; what < 4; what++) {
            CHECK.due("count(" + what + ")", x.count(what), with[what]);
        }
    }

    private static void latestFinding() {
        CHECK.says("34: 8 the number of the latest FINDING (0 before any); answers -10 less the number");
        PromptHoles x = new PromptHoles();
        x.sheet(0, 0, 1);
        x.sheet(1, 1, 1);
        CHECK.due("before any", x.count(8), 0);
        for (int round = 0; round < 2; round++) {
            CHECK.due("NULL", x.lose(3), -11);
            CHECK.due("1", x.count(8), 1);
            CHECK.due("INDEX", x.lay(0, 0, 1, 1), -12);
            CHECK.due("2", x.count(8), 2);
            CHECK.due("CAST", x.lay(0, 1, 0, 1), -13);
            CHECK.due("3", x.count(8), 3);
            CHECK.due("STORE", x.copy(0, 0, 1, 0, 1), -14);
            CHECK.due("4", x.count(8), 4);
            CHECK.due("SIZE", x.sheet(0, 0, -1), -15);
            CHECK.due("5", x.count(8), 5);
        }
        CHECK.says("34: what is no FINDING leaves it (BAD, NOT, FULL, NONE, what is done)");
        x.type(2, 0);
        x.undo(0);
        x.back(0);
        x.line(0);
        x.get(4, 0, 0);
        x.lay(0, 0, 0, 1);
        x.lose(0);
        x.digest();
        CHECK.due("5 still", x.count(8), 5);
        x.get(0, 0, 0);
        CHECK.due("get() tells NULL", x.count(8), 1);
        x.get(1, 0, 0);
        CHECK.due("get() tells CAST", x.count(8), 3);
        x.get(1, 1, 1);
        CHECK.due("get() tells INDEX", x.count(8), 2);
    }

    private static void digest() {
        CHECK.says("35: each of .., as longs that wrap (new, no holes, no PLAY, FAULTS, all full)");
        digestOf("new", new PromptHoles());
        digestOf("no holes, so slips() are BAD as told", Theatre.of("abc", ""));
        digestOf("no play", Theatre.of("", Theatre.NINE_HOLES));
        digestOf("faults", Theatre.of("abi", "a0n"));
        PromptHoles lively = Theatre.of("abcabd", "a9rb;b1nb;e9ye");
        lively.cough(4, 0);
        lively.move(20, 4);
        digestOf("one that slips, may and drifts", lively);
        digestOf("evenings that a seed tells apart", Theatre.of("a", "a9ra"));
        PromptHoles x = Theatre.of(Theatre.FULL_PLAY, Theatre.NINE_HOLES);
        for (int i = 0; i < 12; i++) {
            x.move(3 * i + 1, (7 * i) % 10);
            x.cough(2 * i + 3, i % 9);
        }
        for (int i = 0; i < 6; i++) {
            x.dark(6 * i + 5);
        }
        digestOf("all full", x);
        x.seen(0, 0);
        digestOf("something seen", x);
        CHECK.says("35: a FINDING is not in it (count() 0 to 7)");
        long before = x.digest();
        x.lose(0);
        CHECK.due("behind a finding", x.digest(), before);
    }

    /** The sum in whole numbers that do not wrap, and only then the lowest 64 bits of it. */
    private static void digestOf(String name, PromptHoles x) {
        BigInteger h = BigInteger.valueOf(17);
        for (int what = 0; what < 8; what++) h = more(h, x.count(what));
        h = more(h, x.fault(0), x.fault(1));
        for (int line = 0; line < 8; line++) {
            h = more(h, x.printed(line, 0), x.printed(line, 1), x.often(line, 0), x.often(line, 1));
            h = more(h, x.slips(5, 0, line, 5, 0), x.slips(5, 0, line, 5, 1));
            h = more(h, x.prompt(3, 6, line, 0), x.prompt(3, 6, line, 1), x.prompt(3, 6, line, 2));
        }
        for (int hole = 0; hole < x.count(1); hole++) {
            h = more(h, x.hole(hole, 0), x.hole(hole, 1), x.hole(hole, 2), x.hole(hole, 3));
            h = more(h, x.whispers(3, hole), x.coughed(hole), x.ask(hole));
        }
        for (int step : new int[] {0, 1, 2, 9, 39}) {
            h = more(h, x.step(step, 0), x.step(step, 1), x.step(step, 2), x.step(step, 3));
            h = more(h, x.may(3, step), x.evening(7, step, 0), x.evening(7, step, 1));
        }
        h = more(h, x.drift(0), x.drift(1), x.round(), x.filed());
        CHECK.due("digest(), " + name, x.digest(), h.longValue());
    }

    private static BigInteger more(BigInteger h, long... each) {
        for (long e : each) {
            h = h.multiply(BigInteger.valueOf(31)).add(BigInteger.valueOf(e));
        }
        return h;
    }

    private static void lastCall() {
        CHECK.says("An object is used for at most 512 calls: the 512th is answered as any other");
        PromptHoles x = Theatre.of("abcd", "a9ra");
        for (int call = 9; call <= 511; call++) {
            CHECK.due("call " + call, call % 2 == 0 ? x.type(0, 'e') : x.undo(0), call % 2 == 0 ? 4 : 3);
        }
        CHECK.due("call 512", x.may(1, 39), 3);
    }
}
