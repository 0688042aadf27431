import java.io.IOException;
import java.lang.reflect.Method;
import java.lang.reflect.Modifier;
import java.nio.file.Files;
import java.nio.file.Path;

/** The README's example answers as it says there, and the README tells of every call. */
public final class ReadmeTest extends Trial {
    public static void main(String[] args) throws IOException {
        String readme = Files.readString(Path.of("README.md"));
        example(readme);
        for (Method m : NewsDraughts.class.getDeclaredMethods()) {
            if (!Modifier.isPublic(m.getModifiers())) continue;
            due("the README tells of " + m.getName(), readme.contains("| `" + m.getName() + "(") ? 1 : 0, 1);
        }
        checks.end();
    }

    private static void example(String readme) {
        NewsDraughts x = new NewsDraughts();
        for (char c : "g1,4;n0,1,0;w2;".toCharArray()) x.write(c);
        answers(readme, "x.fault();", x.fault());
        answers(readme, "x.lay();", x.lay());
        answers(readme, "x.step(2);", x.step(2));
        int known = readme.indexOf("x.house(2, 2);");
        answers(readme, "x.house(2, 2);", x.house(2, 2));
        answers(readme, "x.when(3, 0);", x.when(3, 0));
        answers(readme, "x.undo();", x.undo());
        answers(readme.substring(known + 1), "x.house(2, 2);", x.house(2, 2));
    }

    /** Behind the call stands a comment that begins with its answer. */
    private static void answers(String readme, String call, int answer) {
        for (String line : readme.split("\n")) {
            if (!line.startsWith(call)) continue;
            String told = line.substring(line.indexOf("//") + 2).trim();
            due("the README's " + line, told.matches(answer + "[,:].*") ? 1 : 0, 1);
            return;
        }
        due("the README has " + call, 0, 1);
    }
}
