import java.util.Random;

/**
 * "BAD -2 (a number not as told, no such thing)": for every number of every call, what lies just
 * outside its bounds is BAD, and the least and the greatest themselves are taken.
 */
public final class RangesTest {
    private static final Check CHECK = new Check("RangesTest");

    public static void main(String[] args) {
        for (Ranges.Range r : Ranges.of(9)) {
            ask(r, 9);
        }
        for (Ranges.Range r : Ranges.of(1)) {
            ask(r, 1);
        }
        noHoles();
        unbounded();
        anyNumbers();
        CHECK.end();
    }

    /** A theatre in which there is something of each kind, so that only BAD can be due. */
    private static PromptHoles theatre(int holes) {
        PromptHoles x = Theatre.of("abc", Theatre.NINE_HOLES.substring(0, 5 * holes - 1));
        x.move(1, 1);
        x.cough(1, 1);
        x.dark(1);
        x.seen(0, 0);
        for (int s = 0; s < 4; s++) {
            x.sheet(s, 0, 1);
        }
        return x;
    }

    private static void ask(Ranges.Range r, int holes) {
        CHECK.says(r.call() + "(), number " + r.place() + ": " + r.low() + " to " + r.high() + ", " + holes + " holes");
        for (int number : r.outside()) {
            int[] arguments = r.with(number);
            CHECK.due(Theatre.told(r.call(), arguments), Theatre.ask(theatre(holes), r.call(), arguments), bad(r.call()));
        }
        for (int number : r.inside()) {
            PromptHoles x = theatre(holes);
            int[] arguments = r.with(number);
            boolean taken = Theatre.ask(x, r.call(), arguments) != bad(r.call()) || x.count(8) != 0;
            CHECK.holds(Theatre.told(r.call(), arguments) + " is taken", taken);
        }
    }

    private static long bad(String call) {
        return call.equals("slips") ? Theatre.BAD_LONG : call.equals("get") ? Theatre.LEAST : -2;
    }

    /** Without holes there is no such thing as hole 0. */
    private static void noHoles() {
        for (String holes : new String[] {"", "a0n", "a0na;"}) {
            CHECK.says("no such thing: hole 0 of \"" + holes + "\"");
            PromptHoles x = Theatre.of("ab", holes);
            CHECK.due("hole(0, 0)", x.hole(0, 0), -2);
            CHECK.due("whispers(1, 0)", x.whispers(1, 0), -2);
            CHECK.due("coughed(0)", x.coughed(0), -2);
            CHECK.due("ask(0)", x.ask(0), -2);
            CHECK.due("slips(8, 0, 0, 1, 0)", x.slips(8, 0, 0, 1, 0), Theatre.BAD_LONG);
            CHECK.due("cough(1, 0), holes 0 to 8 may be told", x.cough(1, 0), 1);
        }
    }

    /** Numbers of which the document tells no bound. */
    private static void unbounded() {
        for (int number : new int[] {Theatre.LEAST, -1, 0, 1, Theatre.GREATEST}) {
            CHECK.says("evening() by any seed, lay() of any number: " + number);
            PromptHoles x = theatre(1);
            CHECK.due("evening(" + number + ", 0, 0)", x.evening(number, 0, 0), 0);
            CHECK.due("evening(" + number + ", 39, 1) is taken", x.evening(number, 39, 1) >= 0 ? 1 : 0, 1);
            x.sheet(0, 2, 1);
            CHECK.due("lay(0, 2, 0, " + number + ")", x.lay(0, 2, 0, number), 1);
            CHECK.due("get(0, 2, 0)", x.get(0, 2, 0), number);
        }
    }

    /** Whatever is asked in whatever state, an answer comes: what a call throws ends this test. */
    private static void anyNumbers() {
        CHECK.says("no call throws, for any numbers in any state");
        int[] numbers = {0, 1, 2, 3, 7, 8, 9, 38, 39, -1, 10, 16, 17, 24, 40, 60, 61, 'a', 255, 256, Theatre.LEAST, Theatre.GREATEST};
        Random random = new Random(8);
        for (int object = 0; object < 600; object++) {
            PromptHoles x = theatre(1 + random.nextInt(9));
            for (int i = 0; i < 400; i++) {
                String call = Theatre.NAMES.get(random.nextInt(Theatre.NAMES.size()));
                // Mostly small ones, so that many a call does something.
                int most = random.nextBoolean() ? 9 : numbers.length;
                int[] arguments = new int[Theatre.numbersOf(call)];
                for (int a = 0; a < arguments.length; a++) {
                    arguments[a] = numbers[random.nextInt(most)];
                }
                Theatre.ask(x, call, arguments);
            }
            CHECK.holds("its count(2) is a number of bytes", x.count(2) >= 0 && x.count(2) <= 24);
        }
    }
}
