import java.lang.reflect.InvocationTargetException;
import java.lang.reflect.Method;
import java.lang.reflect.Modifier;
import java.util.ArrayList;
import java.util.Comparator;
import java.util.List;
import java.util.Random;
import java.util.Set;

/**
 * Any call with any numbers in any state: none throws, and the same calls give the same answers,
 * whatever else was asked in between.
 */
public final class AnyCallTest {
    private static final int RUNS = 1000;
    /** What is made of texts and what is asked at the end come to this; 512 are all there may be. */
    private static final int CALLS = 200;
    /** All but these change nothing. */
    private static final Set<String> CHANGING = Set.of("person", "field", "shed", "feed", "end", "text", "by",
            "walk", "hat", "draw", "minute", "played", "years", "undo", "cost", "seen", "said", "image", "back");
    private static final int[] ODD = {Integer.MIN_VALUE, Integer.MIN_VALUE + 1, -10000, -1000, -999, -30, -2, -1,
        4, 5, 6, 7, 8, 10, 11, 29, 30, 31, 32, 40, 41, 60, 61, 99, 100, 300, 301, 998, 999, 1000, 9999, 10000,
        1 << 29, 1 << 30, Integer.MAX_VALUE - 1, Integer.MAX_VALUE};
    private static final String[] PARTS = {"wants ", "pours ", "person ", "field ", "shed ", "walk ", "hat ", "bare ",
        "draw;", "minute ", "who ", "wet ", "been ", "at ", "need ", "water ", "steps ", "share ", "waters ", "if ",
        "not ", "of ", "to ", "then ", "else ", "end ", "or ", "and ", "<", "1 ", "(", ")", ";", "-", "+", "*", "/",
        "29 ", "9999 ", "\u00ff", "wants steps-wet*who;", "pours share wet of need;", "minute 9;", "person 8;", "bare 0;"};

    private final Random random;
    private final List<Method> methods;

    private AnyCallTest(int seed, List<Method> methods) {
        this.random = new Random(seed);
        this.methods = methods;
    }

    public static void main(String[] args) throws Exception {
        List<Method> methods = new ArrayList<>();
        for (Method m : RainOnTheOne.class.getDeclaredMethods()) {
            if (Modifier.isPublic(m.getModifiers())) {
                methods.add(m);
            }
        }
        methods.sort(Comparator.comparing(Method::getName));
        for (int seed = 1; seed <= RUNS; seed++) {
            Check.about("run " + seed + ": ");
            new AnyCallTest(seed, methods).run();
        }
        Check.finish();
    }

    /** All calls go to one object, those that change something to another one too. */
    private void run() throws Exception {
        RainOnTheOne all = new RainOnTheOne();
        RainOnTheOne some = new RainOnTheOne();
        for (int i = 0; i < CALLS; i++) {
            Method m = methods.get(random.nextInt(methods.size()));
            String text = m.getName().equals("feed") ? madeText() : "";
            do {
                Object[] numbers = text.isEmpty() ? numbersFor(m) : twentyOf(text);
                long answer = answerOf(all, m, numbers);
                if (CHANGING.contains(m.getName())) {
                    Check.due(m.getName() + ", nothing being asked", answerOf(some, m, numbers), answer);
                }
                text = text.substring(Math.min(20, text.length()));
            } while (!text.isEmpty());
        }
        Check.due("the same", Made.state(all), Made.state(some));
    }

    private static long answerOf(RainOnTheOne x, Method m, Object[] numbers) throws Exception {
        try {
            Object answer = m.invoke(x, numbers);
            return answer instanceof Boolean ? (Boolean) answer ? 1 : 0 : ((Number) answer).longValue();
        } catch (InvocationTargetException e) {
            Check.due(m.getName() + java.util.Arrays.toString(numbers) + " threw " + e.getCause(), true, false);
            return 0;
        }
    }

    private Object[] numbersFor(Method m) {
        Object[] numbers = new Object[m.getParameterCount()];
        for (int i = 0; i < numbers.length; i++) {
            boolean flag = m.getParameterTypes()[i] == boolean.class;
            numbers[i] = flag ? (Object) random.nextBoolean() : (Object) number();
        }
        return numbers;
    }

    private int number() {
        int kind = random.nextInt(12);
        if (kind == 0) {
            return random.nextInt();
        }
        if (kind == 1) {
            return ODD[random.nextInt(ODD.length)];
        }
        return random.nextInt(kind < 6 ? 5 : kind < 11 ? 30 : 62);
    }

    /** A text of CLAUSES that are whole, or of anything at all. */
    private String madeText() {
        StringBuilder text = new StringBuilder();
        boolean whole = random.nextBoolean();
        for (int i = random.nextInt(9); i >= 0; i--) {
            String part = PARTS[random.nextInt(PARTS.length)];
            text.append(!whole || part.length() > 4 && part.endsWith(";") ? part : "");
        }
        while (text.length() % 20 != 0) {
            text.append(' ');
        }
        return text.toString();
    }

    private static Object[] twentyOf(String text) {
        Object[] words = new Object[5];
        for (int i = 0; i < 5; i++) {
            int word = 0;
            for (int k = 0; k < 4; k++) {
                int at = i * 4 + k;
                word = word << 8 | (at < text.length() ? text.charAt(at) : ' ');
            }
            words[i] = word;
        }
        return words;
    }
}
