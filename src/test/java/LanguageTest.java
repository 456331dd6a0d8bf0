import java.lang.management.ManagementFactory;
import java.lang.reflect.Constructor;
import java.lang.reflect.Field;
import java.lang.reflect.Member;
import java.lang.reflect.Method;
import java.lang.reflect.Modifier;
import java.nio.file.Files;
import java.nio.file.Path;
import java.util.Arrays;
import java.util.Set;
import java.util.TreeSet;
import java.util.regex.Matcher;
import java.util.regex.Pattern;

/**
 * The rules of LANGUAGE.md that can be looked at: the face, words that may not stand in the source,
 * the library that it uses, sizes, and that calls make no objects. Exit code 1 if one is broken.
 */
public final class LanguageTest {
  private static final String FACE = "int race(int,int); int swim(int,int,int); int time(int,int,int); "
      + "int read(int,int); int seeds(int,int); int about(int,int); long diff(int,int); long lane(int,int,int); "
      + "int counts(int); int lean(int,int); int chance(); int ran(int); long own(int,int); int fast(int); "
      + "int twice(int,int); int order(int); long right(int,int); int place(int,int); int medals(int); "
      + "int type(int,int); int wipe(int); int fault(int); int given(int); int tenths(int,int); int world(int); "
      + "int made(int,int,int,int,int); int sheet(int,int,int); int lose(int); int put(int,int,int,int); "
      + "int get(int,int,int); int copy(int,int,int,int,int); int write(int,int); int count(int); long digest()";
  private static final Path SOURCE = Path.of("src/main/java/LaneFour.java");

  private static int wrong = 0;

  public static void main(String[] args) throws Exception {
    theFace();
    theInside();
    theWords();
    theSizes();
    theRoom();
    System.out.println(wrong == 0 ? "the rules that are looked at are kept" : wrong + " rules are broken");
    if (wrong != 0) {
      System.exit(1);
    }
  }

  private static void must(boolean holds, String rule) {
    if (!holds) {
      wrong++;
      System.out.println("broken: " + rule);
    }
  }

  private static void theFace() {
    int kind = LaneFour.class.getModifiers();
    must(Modifier.isPublic(kind) && Modifier.isFinal(kind), "rule 1: the class is public and final");
    Set<String> found = new TreeSet<>();
    for (Method m : LaneFour.class.getDeclaredMethods()) {
      if (!Modifier.isPrivate(m.getModifiers())) {
        must(Modifier.isPublic(m.getModifiers()) && !Modifier.isStatic(m.getModifiers()), "rule 1: " + m);
        String types = Arrays.toString(m.getParameterTypes()).replaceAll("[\\[\\] ]", "");
        found.add(m.getReturnType() + " " + m.getName() + "(" + types + ")");
      }
    }
    must(found.equals(new TreeSet<>(Arrays.asList(FACE.split("; ")))), "rule 1: the methods of the face, found " + found);
    Constructor<?>[] makers = LaneFour.class.getDeclaredConstructors();
    must(makers.length == 1 && makers[0].getParameterCount() == 0 && Modifier.isPublic(makers[0].getModifiers()),
        "rule 1: one public constructor");
    Set<String> open = new TreeSet<>();
    for (Field f : LaneFour.class.getDeclaredFields()) {
      if (!Modifier.isPrivate(f.getModifiers())) {
        open.add(f.getName());
      }
    }
    must(open.equals(Set.of("NONE", "BAD", "NOT", "FULL")), "rule 1: the constants of the face, found " + open);
  }

  private static void theInside() {
    Set<String> names = new TreeSet<>();
    for (String signature : FACE.split("; ")) {
      names.add(signature.replaceAll("^\\w+ (\\w+)\\(.*$", "$1"));
    }
    Class<?>[] inside = LaneFour.class.getDeclaredClasses();
    must(inside.length + 1 <= 12, "rule 11: at most twelve classes");
    for (Class<?> c : inside) {
      int kind = c.getModifiers();
      must(Modifier.isStatic(kind) && !Modifier.isPublic(kind) && !Modifier.isProtected(kind), "rule 1: " + c);
      must(c.getDeclaredClasses().length == 0, "rule 2: no class inside " + c);
      for (Method m : c.getDeclaredMethods()) {
        must(!names.contains(m.getName()), "rule 1: a name of the face, " + m);
        must(m.getParameterCount() <= 7, "rule 11: at most seven parameters, " + m);
      }
      theFields(c);
    }
    for (Method m : LaneFour.class.getDeclaredMethods()) {
      must(!Modifier.isPrivate(m.getModifiers()) || !names.contains(m.getName()), "rule 1: a name of the face, " + m);
    }
    theFields(LaneFour.class);
  }

  private static void theFields(Class<?> c) {
    int own = 0;
    for (Field f : c.getDeclaredFields()) {
      boolean shared = isStatic(f);
      must(!shared || Modifier.isFinal(f.getModifiers()), "rule 5: a static field that is not final, " + f);
      own += shared ? 0 : 1;
    }
    must(own <= 20, "rule 11: at most twenty fields, " + c);
  }

  private static boolean isStatic(Member m) {
    return Modifier.isStatic(m.getModifiers());
  }

  private static String withoutComments(String source) {
    return source.replaceAll("(?s)/\\*.*?\\*/", "").replaceAll("//[^\n]*", "");
  }

  private static void theWords() throws Exception {
    String source = Files.readString(SOURCE);
    for (char c : source.toCharArray()) {
      must(c < 128, "a sign above 127, " + (int) c);
    }
    String code = withoutComments(source);
    String[] words = {"throw", "throws", "try", "catch", "finally", "synchronized", "assert", "import", "package",
        "native", "volatile", "transient", "extends", "this", "String", "List", "Object", "var", "double", "float"};
    for (String word : words) {
      must(!Pattern.compile("\\b" + word + "\\b").matcher(code).find(), "a word that may not stand there: " + word);
    }
    must(!code.contains("->") && !code.contains("::"), "rule 2: no lambda, no method reference");
    must(!Pattern.compile("static\\s*\\{").matcher(code).find(), "rule 5: no static block");
    Set<String> library = Set.of("Math.min", "Math.max", "Math.abs", "Integer.compare", "System.arraycopy");
    Matcher used = Pattern.compile("\\b(Math|Integer|Long|System|Arrays|Character|Short|Byte)\\.(\\w+)").matcher(code);
    while (used.find()) {
      must(library.contains(used.group()), "rule 4: the library, " + used.group());
    }
  }

  private static void theSizes() throws Exception {
    int begin = -1;
    String[] lines = Files.readString(SOURCE).split("\n");
    for (int i = 0; i < lines.length; i++) {
      if (lines[i].matches(" {4,8}[\\w\\[\\] ]+\\(.*\\) \\{")) {
        begin = i;
      } else if (begin >= 0 && lines[i].matches(" {4,8}\\}")) {
        must(i - begin <= 60, "rule 11: a method of more than sixty lines, at line " + (begin + 1));
        begin = -1;
      }
    }
  }

  /** All calls of a run share one room, so a call may make none, whatever it is asked. */
  private static void theRoom() {
    com.sun.management.ThreadMXBean meter = (com.sun.management.ThreadMXBean) ManagementFactory.getThreadMXBean();
    long me = Thread.currentThread().getId();
    LaneFour x = new LaneFour();
    manyCalls(x);
    long before = meter.getThreadAllocatedBytes(me);
    manyCalls(x);
    long made = meter.getThreadAllocatedBytes(me) - before;
    must(made < 4096, "rule 12: calls make objects, " + made + " bytes of them");
  }

  private static void manyCalls(LaneFour x) {
    for (int i = 0; i < 15; i++) {
      x.wipe(1);
      x.type(1, 'r');
      x.type(1, '=');
      x.type(1, '9');
      x.made(1 + i % 2, i % 10, i % 17, 1 + i % 7, i);
      x.sheet(i % 4, i % 3, 48);
      x.write(0, i % 4);
      x.copy(i % 4, 0, i % 4, 1, 47);
      x.read(i % 4, 1);
      x.lose(i % 4);
      x.chance();
      x.order(0);
      x.fast(1);
      x.medals(0);
      x.own(1, 0);
      x.tenths(0, 2);
      x.digest();
    }
  }
}
