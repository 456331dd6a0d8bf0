import java.io.IOException;
import java.lang.reflect.Method;
import java.lang.reflect.Modifier;
import java.nio.file.DirectoryStream;
import java.nio.file.Files;
import java.nio.file.Path;
import java.util.HashMap;
import java.util.Map;
import java.util.Set;
import java.util.TreeSet;

/**
 * Plays the runs of calls under src/test/runs: a line is a call with its arguments, then = and the answer
 * that is due; "new" makes a new object. Exit code 1 if an answer is another one, if a line is no call, or
 * if there is a method of the face that no run asks.
 */
public final class RunsTest {
  private static final Path FOLDER = Path.of("src/test/runs");
  private static final int MOST_CALLS = 512;

  private static final Map<String, Method> CALLS = new HashMap<>();
  private static final Set<String> UNASKED = new TreeSet<>();

  private static LaneFour x = null;
  private static int callsOfThis = 0;
  private static int asked = 0;
  private static int wrong = 0;

  public static void main(String[] args) throws IOException {
    for (Method m : LaneFour.class.getDeclaredMethods()) {
      if (Modifier.isPublic(m.getModifiers())) {
        CALLS.put(m.getName(), m);
        UNASKED.add(m.getName());
      }
    }
    try (DirectoryStream<Path> files = Files.newDirectoryStream(FOLDER, "*.txt")) {
      for (Path file : files) {
        play(file);
      }
    }
    if (!UNASKED.isEmpty()) {
      report("no run asks " + UNASKED);
    }
    System.out.println(asked + " calls played, " + wrong + " are not as due");
    if (wrong != 0) {
      System.exit(1);
    }
  }

  private static void report(String what) {
    wrong++;
    System.out.println(what);
  }

  private static void play(Path file) throws IOException {
    x = null;
    int number = 0;
    for (String line : Files.readAllLines(file)) {
      number++;
      if (line.equals("new")) {
        x = new LaneFour();
        callsOfThis = 0;
      } else if (!line.isEmpty() && !line.startsWith("#")) {
        playCall(file.getFileName() + ", line " + number + ": " + line, line);
      }
    }
  }

  private static void playCall(String told, String line) {
    String[] sides = line.split(" = ");
    String[] words = sides[0].split(" ");
    Method call = CALLS.get(words[0]);
    if (x == null || sides.length != 2 || call == null || call.getParameterCount() != words.length - 1) {
      report(told + " is no call");
      return;
    }
    callsOfThis++;
    if (callsOfThis == MOST_CALLS + 1) {
      report(told + " is behind the last call that is promised");
    }
    Object[] arguments = new Object[words.length - 1];
    for (int i = 1; i < words.length; i++) {
      arguments[i - 1] = Integer.parseInt(words[i]);
    }
    asked++;
    UNASKED.remove(words[0]);
    try {
      long got = ((Number) call.invoke(x, arguments)).longValue();
      if (got != Long.parseLong(sides[1])) {
        report(told + " is due, but it answered " + got);
      }
    } catch (ReflectiveOperationException e) {
      report(told + " is due, but it threw " + e.getCause());
    }
  }
}
