import java.lang.reflect.Method;
import java.util.ArrayList;
import java.util.Comparator;
import java.util.List;
import java.util.Random;

/** Runs of calls by chance (always the same ones): the class and the oracle answer alike. */
public final class OracleTest {
    private static final int RUNS = 600;
    private static final int WRONG_ENOUGH = 20;
    private static final int[] WILD = {-1, -2, Integer.MIN_VALUE, Integer.MAX_VALUE, 3, 4, 8, 9, 10, 24, 40, 60, 61, 256};

    private final Check check;
    private final Random random;
    private final PromptHoles real = new PromptHoles();
    private final Oracle oracle = new Oracle();
    private final List<String> told = new ArrayList<>();

    private OracleTest(Check check, long seed) {
        this.check = check;
        random = new Random(seed);
    }

    public static void main(String[] args) throws Exception {
        Check check = new Check("OracleTest");
        List<Method> methods = new ArrayList<>();
        for (Method m : PromptHoles.class.getDeclaredMethods()) {
            if (java.lang.reflect.Modifier.isPublic(m.getModifiers())) {
                methods.add(m);
            }
        }
        methods.sort(Comparator.comparing(Method::getName));
        for (int run = 0; run < RUNS && check.wrong() < WRONG_ENOUGH; run++) {
            new OracleTest(check, run).run(methods);
        }
        check.end();
    }

    private void run(List<Method> methods) throws Exception {
        int begun = check.wrong();
        if (random.nextInt(12) != 0) {
            typeText(0, playByChance());
        }
        if (random.nextInt(12) != 0) {
            typeText(1, holesByChance());
        }
        tellByChance();
        int calls = 60 + random.nextInt(60);
        for (int i = 0; i < calls && check.wrong() == begun; i++) {
            Method m = methods.get(random.nextInt(methods.size()));
            // Wiping and unmaking are rare, so that most questions meet a whole theatre.
            boolean spoils = m.getName().equals("wipe") || m.getName().equals("undo") || m.getName().equals("type");
            if (!spoils || random.nextInt(4) == 0) {
                ask(m, argumentsFor(m));
            }
        }
        if (check.wrong() == begun) {
            ask(PromptHoles.class.getDeclaredMethod("digest"), new Object[0]);
        }
    }

    private void ask(Method m, Object[] arguments) throws Exception {
        StringBuilder call = new StringBuilder(m.getName()).append('(');
        for (int i = 0; i < arguments.length; i++) {
            call.append(i == 0 ? "" : ", ").append(arguments[i]);
        }
        told.add(call.append(')').toString());
        Method same = Oracle.class.getDeclaredMethod(m.getName(), m.getParameterTypes());
        long got = ((Number) m.invoke(real, arguments)).longValue();
        long want = ((Number) same.invoke(oracle, arguments)).longValue();
        check.due(got == want ? call.toString() : String.join(", ", told), got, want);
    }

    private void ask(String name, int... arguments) throws Exception {
        for (Method m : PromptHoles.class.getDeclaredMethods()) {
            if (m.getName().equals(name)) {
                Object[] boxed = new Object[arguments.length];
                for (int i = 0; i < boxed.length; i++) {
                    boxed[i] = arguments[i];
                }
                ask(m, boxed);
            }
        }
    }

    private void typeText(int text, String bytes) throws Exception {
        for (int i = 0; i < bytes.length(); i++) {
            ask("type", text, bytes.charAt(i));
        }
    }

    private String playByChance() {
        int letters = 1 + random.nextInt(8);
        int length = 1 + random.nextInt(random.nextBoolean() ? 6 : 25);
        StringBuilder play = new StringBuilder();
        for (int i = 0; i < length; i++) {
            play.append((char) ('a' + random.nextInt(letters)));
        }
        return random.nextInt(25) == 0 ? play.append('i').toString() : play.toString();
    }

    private String holesByChance() {
        int many = random.nextInt(6) == 0 ? 9 : 1 + random.nextInt(5);
        int farthest = 1 + random.nextInt(10);
        StringBuilder holes = new StringBuilder();
        for (int i = 0; i < many; i++) {
            holes.append(i == 0 ? "" : ";").append((char) ('a' + random.nextInt(10)));
            holes.append((char) ('0' + random.nextInt(farthest)));
            holes.append("nryl".charAt(random.nextInt(4))).append((char) ('a' + random.nextInt(8)));
        }
        if (random.nextInt(12) == 0) {
            holes.setCharAt(random.nextInt(holes.length()), ";az09nl".charAt(random.nextInt(7)));
        }
        return holes.toString();
    }

    private void tellByChance() throws Exception {
        for (int i = random.nextInt(10); i > 0; i--) {
            ask("move", random.nextInt(random.nextBoolean() ? 10 : 40), random.nextInt(10));
        }
        for (int i = random.nextInt(10); i > 0; i--) {
            ask("cough", random.nextInt(random.nextBoolean() ? 10 : 40), random.nextInt(random.nextBoolean() ? 3 : 9));
        }
        for (int i = random.nextInt(4); i > 0; i--) {
            ask("dark", random.nextInt(40));
        }
        // What is seen is mostly what may be: else nothing fits it.
        for (int i = random.nextInt(3); i > 0; i--) {
            int step = random.nextInt(40);
            int line = Integer.numberOfTrailingZeros(Integer.highestOneBit(oracle.may(random.nextInt(31), step)));
            ask("seen", step, line);
        }
    }

    private Object[] argumentsFor(Method m) {
        int[] many = limitsOf(m.getName());
        Object[] arguments = new Object[many.length];
        for (int i = 0; i < many.length; i++) {
            if (many[i] == 0) {
                arguments[i] = random.nextInt();
            } else if (random.nextInt(30) == 0) {
                arguments[i] = WILD[random.nextInt(WILD.length)];
            } else {
                arguments[i] = random.nextInt(many[i]);
            }
        }
        return arguments;
    }

    /** For each argument about how many numbers it has, from 0 on; 0: all ints. */
    private static int[] limitsOf(String name) {
        switch (name) {
            case "type": return new int[] {2, 128};
            case "wipe": case "undo": case "fault": return new int[] {2};
            case "line": return new int[] {24};
            case "hole": return new int[] {6, 4};
            case "printed": case "often": return new int[] {8, 2};
            case "move": return new int[] {40, 10};
            case "cough": return new int[] {40, 9};
            case "dark": return new int[] {40};
            case "back": return new int[] {3};
            case "read": case "lose": return new int[] {4};
            case "step": return new int[] {40, 4};
            case "whispers": return new int[] {40, 5};
            case "drift": return new int[] {2};
            case "may": return new int[] {40, 40};
            case "prompt": return new int[] {12, 20, 8, 3};
            case "seen": return new int[] {40, 8};
            case "coughed": case "ask": return new int[] {5};
            case "slips": return new int[] {17, 4, 8, 10, 2};
            case "evening": return new int[] {0, 40, 2};
            case "sheet": return new int[] {4, 3, 61};
            case "lay": return new int[] {4, 3, 20, 0};
            case "get": return new int[] {4, 3, 20};
            case "copy": return new int[] {4, 20, 4, 20, 20};
            case "write": return new int[] {2, 4};
            case "count": return new int[] {9};
            default: return new int[0];
        }
    }
}
