import java.nio.file.Files;
import java.nio.file.Path;
import java.util.regex.Matcher;
import java.util.regex.Pattern;

/** What README.md shows under "Use": every line of it with an answer is done here, in its order. */
public final class ReadmeTest {
    private static final Pattern ANSWERED = Pattern.compile("^(.*;) +// (-?\\d+|true)\\b.*$", Pattern.MULTILINE);
    private static Matcher lines;

    public static void main(String[] args) throws Exception {
        String readme = Files.readString(Path.of("README.md"));
        lines = ANSWERED.matcher(readme);
        byHand();
        Check.due("an answer in README.md that is not looked at", lines.find(), false);
        allCallsAreNamed(readme);
        tellIsTheSame(readme);
        Check.finish();
    }

    /** The next line of README.md with an answer must be this one, and its answer must be so. */
    private static void line(String call, long got) {
        boolean found = lines.find();
        Check.due("README.md has one more answer", found, true);
        if (found) {
            Check.due("the line", lines.group(1), call);
            String told = lines.group(2);
            Check.due(call, got, told.equals("true") ? 1 : Long.parseLong(told));
        }
    }

    private static void byHand() {
        RainOnTheOne rain = new RainOnTheOne();
        line("rain.person(8, true);", rain.person(8, true));
        line("rain.person(20, false);", rain.person(20, false));
        line("rain.when(0);", rain.when(0));
        line("rain.when(1);", rain.when(1));
        line("rain.minute(4);", rain.minute(4));
        line("rain.ofCell(8, 1);", rain.ofCell(8, 1));
        line("rain.book(0, 0);", rain.book(0, 0));
        line("rain.undo();", rain.undo());
        line("rain.ofCell(8, 1);", rain.ofCell(8, 1));
        line("rain.steps(8, 20);", rain.steps(8, 20));
        line("rain.caught(20, 8, 2);", rain.caught(20, 8, 2));
        byTexts(rain);
    }

    private static void byTexts(RainOnTheOne rain) {
        String laws = "wants wet - steps; pours if waters 8 < 5 then 9 else 1 end;";
        line("tell(rain, \"" + laws + "\");", tell(rain, laws));
        line("rain.by(0);", rain.by(0) ? 1 : 0);
        line("rain.of(0, 4);", rain.of(0, 4));
        line("rain.minute(2);", rain.minute(2));
        line("rain.ofCell(8, 1);", rain.ofCell(8, 1));
        String deeds = "walk 0 to 9; minute 1; walk 0 to 11;";
        line("tell(rain, \"" + deeds + "\");", tell(rain, deeds));
        line("rain.played(1);", rain.played(1));
        line("rain.is(1);", rain.is(1));
        line("tell(rain, \"pours steps;\");", tell(rain, "pours steps;"));
        line("rain.fault(0);", rain.fault(0));
        line("rain.fault(1);", rain.fault(1));
    }

    private static void allCallsAreNamed(String readme) {
        for (java.lang.reflect.Method m : RainOnTheOne.class.getDeclaredMethods()) {
            if (java.lang.reflect.Modifier.isPublic(m.getModifiers())) {
                Check.due("README.md names " + m.getName(), readme.contains("`" + m.getName() + "`"), true);
            }
        }
    }

    /** The method that README.md shows is the one below, but for what stands ahead of each line. */
    private static void tellIsTheSame(String readme) throws Exception {
        String own = Files.readString(Path.of("src/test/java/ReadmeTest.java"));
        int from = own.lastIndexOf("    static int tell(");
        String method = own.substring(from, own.indexOf("\n    }\n", from) + 7).replaceAll("(?m)^    ", "");
        Check.due("README.md shows tell", readme.contains("```java\n" + method + "```"), true);
    }

    static int tell(RainOnTheOne rain, String text) {
        rain.end(0);
        for (int i = 0; i < text.length(); i += 20) {
            int[] four = new int[5];
            for (int k = 0; k < 20 && i + k < text.length(); k++) {
                four[k / 4] |= (text.charAt(i + k) & 255) << 24 - k % 4 * 8;
            }
            rain.feed(four[0], four[1], four[2], four[3], four[4]);
        }
        rain.end(text.length());
        return rain.text();
    }
}
