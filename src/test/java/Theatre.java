import java.lang.reflect.Method;
import java.lang.reflect.Modifier;
import java.util.List;
import java.util.Map;
import java.util.TreeMap;

/** Theatres to ask: made from texts, asked by a call's name, or row by row. */
final class Theatre {
    static final int STEPS = 40;
    static final int LEAST = Integer.MIN_VALUE;
    static final int GREATEST = Integer.MAX_VALUE;
    static final long BAD_LONG = Long.MIN_VALUE + 2;

    /** 24 bytes: all lines three times. */
    static final String FULL_PLAY = "abcdefgh".repeat(3);
    /** 44 bytes: the first and the last place, figure and line, and every habit. */
    static final String NINE_HOLES = "a0na;b1rb;c2yc;d3ld;e4ne;f5rf;g6yg;h7lh;j9na";

    private static final Map<String, Method> CALLS = new TreeMap<>();

    static {
        for (Method m : PromptHoles.class.getDeclaredMethods()) {
            if (Modifier.isPublic(m.getModifiers())) {
                CALLS.put(m.getName(), m);
            }
        }
    }

    /** The names of all calls, always in the same order. */
    static final List<String> NAMES = List.copyOf(CALLS.keySet());

    private Theatre() {
    }

    static PromptHoles of(String play, String holes) {
        PromptHoles x = new PromptHoles();
        typeAll(x, 0, play);
        typeAll(x, 1, holes);
        return x;
    }

    static void typeAll(PromptHoles x, int text, String bytes) {
        for (int i = 0; i < bytes.length(); i++) {
            x.type(text, bytes.charAt(i));
        }
    }

    static long ask(PromptHoles x, String name, int... arguments) {
        Object[] boxed = new Object[arguments.length];
        for (int i = 0; i < boxed.length; i++) {
            boxed[i] = arguments[i];
        }
        try {
            return ((Number) CALLS.get(name).invoke(x, boxed)).longValue();
        } catch (ReflectiveOperationException e) {
            throw new IllegalStateException(told(name, arguments), e);
        }
    }

    static int numbersOf(String name) {
        return CALLS.get(name).getParameterCount();
    }

    static String told(String name, int... arguments) {
        StringBuilder call = new StringBuilder(name).append('(');
        for (int i = 0; i < arguments.length; i++) {
            call.append(i == 0 ? "" : ", ").append(arguments[i]);
        }
        return call.append(')').toString();
    }

    /** Letters of what is played in all steps; - where nothing is. */
    static String played(PromptHoles x) {
        return row(x, 0, 'a');
    }

    /** Figures of the holes by which it is played in all steps; - where it is by none. */
    static String playedBy(PromptHoles x) {
        return row(x, 1, '0');
    }

    /** Figures of the places in which the actor stands. */
    static String stands(PromptHoles x) {
        return row(x, 2, '0');
    }

    /** Letters of what is printed in all steps; - where nothing is. */
    static String printed(PromptHoles x) {
        return row(x, 3, 'a');
    }

    /** Letters of what a hole whispers in all steps; - where it whispers nothing. */
    static String whispered(PromptHoles x, int hole) {
        StringBuilder row = new StringBuilder();
        for (int step = 0; step < STEPS; step++) {
            row.append(sign(x.whispers(step, hole), 'a'));
        }
        return row.toString();
    }

    private static String row(PromptHoles x, int what, char first) {
        StringBuilder row = new StringBuilder();
        for (int step = 0; step < STEPS; step++) {
            row.append(sign(x.step(step, what), first));
        }
        return row.toString();
    }

    private static char sign(int answer, char first) {
        return answer == -1 ? '-' : answer < 0 ? '!' : (char) (first + answer);
    }

    /** The first 40 signs of a head and then of a tail, again and again. */
    static String steps(String head, String tail) {
        return (head + tail.repeat(STEPS)).substring(0, STEPS);
    }
}
