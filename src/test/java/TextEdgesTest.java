/** The edges that the document names of texts, of THE PLAY and of HOLES (promises 1 to 8). */
public final class TextEdgesTest {
    private static final Check CHECK = new Check("TextEdgesTest");

    public static void main(String[] args) {
        newObject();
        fullTexts();
        bytes();
        wipe();
        undo();
        letters();
        holeBytes();
        unended();
        firstFault();
        asIfEmpty();
        line();
        hole();
        next();
        ahead();
        noPlay();
        CHECK.end();
    }

    private static void newObject() {
        CHECK.says("1: no PLAY, no holes; all SHEETS are LOST");
        PromptHoles x = new PromptHoles();
        for (int what = 0; what <= 8; what++) {
            CHECK.due("count(" + what + ")", x.count(what), 0);
        }
        CHECK.due("line(0)", x.line(0), -1);
        CHECK.due("hole(0, 0)", x.hole(0, 0), -2);
        CHECK.same("stands", Theatre.stands(x), Theatre.steps("", "0"));
        for (int s = 0; s < 4; s++) {
            CHECK.due("lose(" + s + ")", x.lose(s), -11);
        }
        CHECK.says("1: what is asked of an object ahead of all else");
        CHECK.same("played", Theatre.played(new PromptHoles()), Theatre.steps("", "-"));
        CHECK.same("by which hole", Theatre.playedBy(new PromptHoles()), Theatre.steps("", "-"));
        CHECK.same("stands", Theatre.stands(new PromptHoles()), Theatre.steps("", "0"));
        CHECK.same("printed", Theatre.printed(new PromptHoles()), Theatre.steps("", "-"));
        for (int text = 0; text < 2; text++) {
            CHECK.due("fault(" + text + ")", new PromptHoles().fault(text), -1);
        }
        for (int line = 0; line < 8; line++) {
            CHECK.due("printed(" + line + ", 0)", new PromptHoles().printed(line, 0), -1);
            CHECK.due("printed(" + line + ", 1)", new PromptHoles().printed(line, 1), -1);
            CHECK.due("often(" + line + ", 0)", new PromptHoles().often(line, 0), 0);
            CHECK.due("prompt(1, 39, " + line + ", 2)", new PromptHoles().prompt(1, 39, line, 2), 0);
        }
        CHECK.due("drift(0)", new PromptHoles().drift(0), -1);
        CHECK.due("round()", new PromptHoles().round(), 1);
        CHECK.due("may(1, 39)", new PromptHoles().may(1, 39), 0);
        CHECK.due("filed()", new PromptHoles().filed(), 0);
        CHECK.due("evening(7, 39, 0)", new PromptHoles().evening(7, 39, 0), -1);
        CHECK.due("evening(7, 39, 1)", new PromptHoles().evening(7, 39, 1), 0);
    }

    private static void fullTexts() {
        CHECK.says("a text of up to 24 bytes (text 0)");
        PromptHoles x = new PromptHoles();
        fill(x, 0, Theatre.FULL_PLAY);
        CHECK.due("count(0)", x.count(0), 24);
        CHECK.due("fault(0)", x.fault(0), -1);
        CHECK.due("the other text", x.count(3), 0);
        CHECK.says("a text of up to 44 bytes (text 1), 9 holes at most");
        PromptHoles y = new PromptHoles();
        fill(y, 1, Theatre.NINE_HOLES);
        CHECK.due("count(1)", y.count(1), 9);
        CHECK.due("hole(8, 0)", y.hole(8, 0), 9);
        CHECK.due("hole(9, 0)", y.hole(9, 0), -2);
        CHECK.due("the other text", y.count(2), 0);
        CHECK.says("FAULT: also the first byte of a tenth hole (no text is long enough for one)");
        CHECK.due("type(1, ';')", y.type(1, ';'), -4);
        CHECK.due("fault(1)", y.fault(1), -1);
        CHECK.due("count(1)", y.count(1), 9);
    }

    /** Types a text until it is full, and one byte more; then one byte less and again. */
    private static void fill(PromptHoles x, int text, String bytes) {
        int many = bytes.length();
        for (int i = 0; i < many; i++) {
            CHECK.due("type, byte " + (i + 1), x.type(text, bytes.charAt(i)), i + 1);
        }
        CHECK.due("one byte more", x.type(text, 'a'), -4);
        CHECK.due("bytes", x.count(2 + text), many);
        CHECK.due("undo", x.undo(text), many - 1);
        CHECK.due("the last byte again", x.type(text, bytes.charAt(many - 1)), many);
        CHECK.due("and one more", x.type(text, 'a'), -4);
    }

    private static void bytes() {
        CHECK.says("2: a byte (0 to 255)");
        PromptHoles x = new PromptHoles();
        CHECK.due("type(0, 0)", x.type(0, 0), 1);
        CHECK.due("type(0, 255)", x.type(0, 255), 2);
        CHECK.due("type(1, 0)", x.type(1, 0), 1);
        CHECK.due("type(1, 255)", x.type(1, 255), 2);
        CHECK.due("type(0, -1)", x.type(0, -1), -2);
        CHECK.due("type(0, 256)", x.type(0, 256), -2);
        CHECK.due("a letter and 256 is no letter", x.type(0, 256 + 'a'), -2);
        CHECK.due("a letter less 256 is no letter", x.type(0, 'a' - 256), -2);
        CHECK.due("count(2)", x.count(2), 2);
    }

    private static void wipe() {
        CHECK.says("3: a text is empty: how many bytes it had (none, one, all)");
        PromptHoles x = new PromptHoles();
        CHECK.due("wipe(0) of none", x.wipe(0), 0);
        CHECK.due("wipe(1) of none", x.wipe(1), 0);
        x.type(0, 'a');
        x.type(1, 'a');
        CHECK.due("wipe(0) of one", x.wipe(0), 1);
        CHECK.due("count(3), the other text", x.count(3), 1);
        CHECK.due("wipe(1) of one", x.wipe(1), 1);
        PromptHoles y = Theatre.of(Theatre.FULL_PLAY, Theatre.NINE_HOLES);
        CHECK.due("wipe(1) of 44", y.wipe(1), 44);
        CHECK.due("count(1)", y.count(1), 0);
        CHECK.due("count(0), the other text", y.count(0), 24);
        CHECK.due("wipe(0) of 24", y.wipe(0), 24);
        CHECK.due("step(0, 0)", y.step(0, 0), -1);
        CHECK.due("type(0, 'h') behind it", y.type(0, 'h'), 1);
        CHECK.due("step(39, 0)", y.step(39, 0), 7);
    }

    private static void undo() {
        CHECK.says("4: NOT: it is empty");
        PromptHoles x = new PromptHoles();
        for (int text = 0; text < 2; text++) {
            CHECK.due("undo(" + text + ") of none", x.undo(text), -3);
            x.type(text, 'a');
            CHECK.due("undo(" + text + ") of one", x.undo(text), 0);
            CHECK.due("undo(" + text + ") again", x.undo(text), -3);
            CHECK.due("count", x.count(2 + text), 0);
            CHECK.due("type behind it", x.type(text, 'a'), 1);
        }
        CHECK.says("4: how many are left, of a full text down to none");
        PromptHoles y = Theatre.of(Theatre.FULL_PLAY, Theatre.NINE_HOLES);
        for (int left = 23; left >= 0; left--) {
            CHECK.due("undo(0)", y.undo(0), left);
            CHECK.due("count(0)", y.count(0), left);
        }
        for (int left = 43; left >= 0; left--) {
            CHECK.due("undo(1)", y.undo(1), left);
            CHECK.due("count(1)", y.count(1), left % 5 == 4 ? (left + 1) / 5 : 0);
        }
    }

    private static void letters() {
        CHECK.says("1: its LINES, letters a to h (0 to 7): all bytes, one by one");
        for (int b = 0; b < 256; b++) {
            boolean letter = b >= 97 && b <= 104;
            PromptHoles x = new PromptHoles();
            x.type(0, b);
            CHECK.due("fault(0) of byte " + b, x.fault(0), letter ? -1 : 0);
            CHECK.due("line(0) of byte " + b, x.line(0), letter ? b - 97 : -1);
            CHECK.due("count(0) of byte " + b, x.count(0), letter ? 1 : 0);
        }
    }

    private static void holeBytes() {
        String[] well = {"abcdefghij", "0123456789", "nryl", "abcdefgh", ";"};
        String[] told = {"a letter a to j", "a figure 0 to 9", "HABIT n, r, y, l", "a letter a to h", "; between them"};
        for (int place = 0; place < 5; place++) {
            CHECK.says("HOLES: " + told[place] + ": all bytes, one by one, in the first and the last hole");
            for (int b = 0; b < 256; b++) {
                holeByte(place, b, well[place].indexOf(b) >= 0);
                if (place < 4) {
                    holeByte(40 + place, b, well[place].indexOf(b) >= 0);
                }
            }
        }
    }

    private static void holeByte(int place, int b, boolean well) {
        PromptHoles x = Theatre.of("", Theatre.NINE_HOLES.substring(0, place));
        x.type(1, b);
        int end = place % 5 == 3 ? -1 : place + 1;
        CHECK.due("fault(1), byte " + b + " in place " + place, x.fault(1), well ? end : place);
    }

    private static void unended() {
        CHECK.says("FAULT: an empty one is well; of one that is not ended, its end (all lengths)");
        PromptHoles x = new PromptHoles();
        CHECK.due("fault(0) of an empty text", x.fault(0), -1);
        CHECK.due("fault(1) of an empty text", x.fault(1), -1);
        for (int many = 1; many <= 44; many++) {
            x.type(1, Theatre.NINE_HOLES.charAt(many - 1));
            boolean ended = many % 5 == 4;
            CHECK.due("fault(1) of " + many + " bytes", x.fault(1), ended ? -1 : many);
            CHECK.due("count(1) of " + many + " bytes", x.count(1), ended ? (many + 1) / 5 : 0);
        }
    }

    private static void firstFault() {
        CHECK.says("FAULT: the place of the first byte with which it cannot go on (the first place, the last)");
        for (int place = 0; place < 24; place++) {
            PromptHoles x = Theatre.of(with(Theatre.FULL_PLAY, place, 'i'), "");
            CHECK.due("fault(0), a wrong byte in place " + place, x.fault(0), place);
            CHECK.due("count(0), a wrong byte in place " + place, x.count(0), 0);
        }
        for (int place = 0; place < 44; place++) {
            PromptHoles x = Theatre.of("", with(Theatre.NINE_HOLES, place, '!'));
            CHECK.due("fault(1), a wrong byte in place " + place, x.fault(1), place);
            CHECK.due("count(1), a wrong byte in place " + place, x.count(1), 0);
        }
        CHECK.due("of two the first, text 0", Theatre.of("ai`", "").fault(0), 1);
        CHECK.due("of two the first, text 1", Theatre.of("", "a0na;k:").fault(1), 5);
        CHECK.due("a wrong byte counts ahead of the end", Theatre.of("", "a:").fault(1), 1);
    }

    private static String with(String text, int place, char sign) {
        return text.substring(0, place) + sign + text.substring(place + 1);
    }

    private static void asIfEmpty() {
        CHECK.says("With a FAULT a text is as if it was empty");
        PromptHoles x = Theatre.of("abi", "a9yc");
        CHECK.same("played without a play", Theatre.played(x), Theatre.steps("", "-"));
        CHECK.due("count(0)", x.count(0), 0);
        CHECK.due("count(2), its bytes", x.count(2), 3);
        CHECK.due("count(1), the other text", x.count(1), 1);
        x.undo(0);
        CHECK.same("the fault undone", Theatre.played(x), Theatre.steps("", "ac"));
        x.type(1, ';');
        CHECK.same("without holes", Theatre.played(x), Theatre.steps("", "ab"));
        CHECK.due("hole(0, 0)", x.hole(0, 0), -2);
        CHECK.due("count(1)", x.count(1), 0);
        CHECK.due("count(3), its bytes", x.count(3), 5);
        CHECK.due("count(0), the other text", x.count(0), 2);
        x.undo(1);
        CHECK.same("that fault undone", Theatre.played(x), Theatre.steps("", "ac"));
    }

    private static void line() {
        CHECK.says("6: the LINE in a place (0 to 23); NONE");
        PromptHoles full = Theatre.of("b" + Theatre.FULL_PLAY.substring(1, 23) + "d", "");
        CHECK.due("line(0) of 24", full.line(0), 1);
        CHECK.due("line(22) of 24", full.line(22), 6);
        CHECK.due("line(23) of 24", full.line(23), 3);
        full.undo(0);
        CHECK.due("line(22) of 23", full.line(22), 6);
        CHECK.due("line(23) of 23", full.line(23), -1);
        PromptHoles one = Theatre.of("h", "");
        CHECK.due("line(0) of one", one.line(0), 7);
        CHECK.due("line(1) of one", one.line(1), -1);
        CHECK.due("line(23) of one", one.line(23), -1);
        one.wipe(0);
        CHECK.due("line(0) of none", one.line(0), -1);
    }

    private static void hole() {
        CHECK.says("7: PLACE 0 to 9, HEARS 0 to 9, HABIT 0 to 3, LINE 0 to 7; the first hole and the last");
        String text = "a0na;j9lh;b8rb;i1yg;a9la;j0nh;e5rd;a0la;j9na";
        PromptHoles x = Theatre.of("", text);
        for (int hole = 0; hole < 9; hole++) {
            String h = text.substring(5 * hole, 5 * hole + 4);
            CHECK.due("hole(" + hole + ", 0) of " + h, x.hole(hole, 0), "abcdefghij".indexOf(h.charAt(0)));
            CHECK.due("hole(" + hole + ", 1) of " + h, x.hole(hole, 1), "0123456789".indexOf(h.charAt(1)));
            CHECK.due("hole(" + hole + ", 2) of " + h, x.hole(hole, 2), "nryl".indexOf(h.charAt(2)));
            CHECK.due("hole(" + hole + ", 3) of " + h, x.hole(hole, 3), "abcdefgh".indexOf(h.charAt(3)));
        }
    }

    private static void next() {
        CHECK.says("NEXT: behind the last one the first");
        CHECK.due("of 24 lines", Theatre.of("b" + Theatre.FULL_PLAY.substring(1, 23).replace('h', 'g') + "h", "").printed(7, 0), 1);
        CHECK.due("of two lines", Theatre.of("ch", "").printed(7, 0), 2);
        CHECK.due("of one line", Theatre.of("h", "").printed(7, 0), 7);
        CHECK.says("NEXT: the one behind the first place in which that LINE is");
        CHECK.due("ab..ac", Theatre.of("abac", "").printed(0, 0), 1);
        CHECK.due("the last place is not the first", Theatre.of("hahb", "").printed(7, 0), 0);
        CHECK.due("twice the same", Theatre.of("aab", "").printed(0, 0), 0);
        CHECK.due("last as well as first", Theatre.of("abca", "").printed(0, 0), 1);
        CHECK.says("NEXT: of a LINE that is nowhere, the first one");
        CHECK.due("of the last line", Theatre.of("cab", "").printed(7, 0), 2);
        CHECK.due("of the first line", Theatre.of("hgf", "").printed(0, 0), 7);
    }

    private static void ahead() {
        CHECK.says("AHEAD: of the first one the last");
        CHECK.due("of 24 lines", Theatre.of("h" + Theatre.FULL_PLAY.substring(1, 23).replace('h', 'g') + "b", "").printed(7, 1), 1);
        CHECK.due("of two lines", Theatre.of("hc", "").printed(7, 1), 2);
        CHECK.due("of one line", Theatre.of("h", "").printed(7, 1), 7);
        CHECK.says("AHEAD, likewise: the first place, and of a LINE that is nowhere the first one");
        CHECK.due("of two places the first", Theatre.of("bacad", "").printed(0, 1), 1);
        CHECK.due("twice the same", Theatre.of("baa", "").printed(0, 1), 1);
        CHECK.due("first as well as last", Theatre.of("abca", "").printed(0, 1), 0);
        CHECK.due("the last one", Theatre.of("abc", "").printed(2, 1), 1);
        CHECK.due("nowhere, of the last line", Theatre.of("cab", "").printed(7, 1), 2);
        CHECK.due("nowhere, of the first line", Theatre.of("hgf", "").printed(0, 1), 7);
    }

    private static void noPlay() {
        CHECK.says("1: none: there is no PLAY; without a PLAY nothing is played (NONE)");
        PromptHoles x = Theatre.of("", "a9ya;a9rb;a9nc;a9ld");
        x.dark(3);
        x.cough(2, 0);
        CHECK.same("played", Theatre.played(x), Theatre.steps("", "-"));
        CHECK.same("by which hole", Theatre.playedBy(x), Theatre.steps("", "-"));
        CHECK.same("printed", Theatre.printed(x), Theatre.steps("", "-"));
        for (int hole = 0; hole < 4; hole++) {
            CHECK.same("whispered by " + hole, Theatre.whispered(x, hole), Theatre.steps("", "-"));
        }
        for (int line = 0; line < 8; line += 7) {
            CHECK.due("printed(" + line + ", 0)", x.printed(line, 0), -1);
            CHECK.due("printed(" + line + ", 1)", x.printed(line, 1), -1);
            CHECK.due("often(" + line + ", 0)", x.often(line, 0), 0);
            CHECK.due("often(" + line + ", 1)", x.often(line, 1), -1);
            CHECK.due("slips(8, 0, " + line + ", 9, 0)", x.slips(8, 0, line, 9, 0), 0);
            CHECK.due("slips(8, 0, " + line + ", 9, 1)", x.slips(8, 0, line, 9, 1), 1);
        }
        CHECK.due("drift(0)", x.drift(0), -1);
        CHECK.due("drift(1)", x.drift(1), -1);
        CHECK.due("may(1, 39)", x.may(1, 39), 0);
        CHECK.due("evening(7, 39, 0)", x.evening(7, 39, 0), -1);
        CHECK.due("evening(7, 39, 1)", x.evening(7, 39, 1), 0);
        CHECK.due("line(0)", x.line(0), -1);
    }
}
