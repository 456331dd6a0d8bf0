import java.io.IOException;
import java.lang.reflect.InvocationTargetException;
import java.lang.reflect.Method;
import java.lang.reflect.Modifier;
import java.nio.file.Files;
import java.nio.file.Path;
import java.util.ArrayList;
import java.util.Arrays;
import java.util.Comparator;
import java.util.HashMap;
import java.util.List;
import java.util.Map;
import java.util.Set;
import java.util.TreeSet;

/**
 * Boundary cases, sentence by sentence: each test says which promise, or which part of "Terms", it belongs
 * to and the sentence of the document that names the case. It asks the last value that is taken and the
 * first one beyond it, the empty and the full, numbers that wrap, and each refusal, also where two fit at
 * once. Answers that are due were worked out by hand. Exit code 1 if one is another one.
 *
 * <p>Each refused call is asked twice: on the object of the test, and on a new one that got the same calls
 * and is then compared, with all that can be asked of it, with one that was not asked: nothing may have
 * changed but count() 8, and that by a FINDING alone. No object is used for more than 512 calls.
 */
public final class BoundsTest {
  private static final int NONE = -1, BAD = -2, NOT = -3, FULL = -4;
  private static final int NULL = -11, INDEX = -12, CAST = -13, STORE = -14, SIZE = -15;
  private static final int BAD_TIME = -5, BAD_LEAN = -9999, BAD_WORLD = -5000;
  private static final long LONG_BAD = Long.MIN_VALUE + 2, LONG_NOT = Long.MIN_VALUE + 3;
  private static final int LEAST = Integer.MIN_VALUE, MOST = Integer.MAX_VALUE;
  private static final int MOST_CALLS = 512;
  private static final long THREW = Long.MIN_VALUE + 99;
  private static final Path DOCUMENT = Path.of("../shared/DOC.md");

  private static final Map<String, Method> CALLS = new HashMap<>();
  private static final Set<String> PLACES = new TreeSet<>();
  private static final List<Step> STEPS = new ArrayList<>();

  private static String document = null;
  private static String test = "";
  private static String place = "";
  private static Pool pool = null;
  private static int asked = 0;
  private static int wrong = 0;

  /** A call that the object of a test got, to be given to its twins too. */
  private record Step(String call, int[] a) {
  }

  private static final class Pool {
    final LaneFour x = new LaneFour();
    int calls = 0;
  }

  public static void main(String[] args) throws IOException {
    if (Files.exists(DOCUMENT)) {
      document = oneLine(Files.readString(DOCUMENT));
    }
    for (Method m : LaneFour.class.getDeclaredMethods()) {
      if (Modifier.isPublic(m.getModifiers())) {
        CALLS.put(m.getName(), m);
      }
    }
    int tests = 0;
    Method[] all = BoundsTest.class.getDeclaredMethods();
    Arrays.sort(all, Comparator.comparing(Method::getName));
    for (Method m : all) {
      if (m.getName().matches("(what|terms|refusals|promise)\\d*_\\w+")) {
        run(m);
        tests++;
      }
    }
    allPlacesHaveATest();
    System.out.println(tests + " sentences, " + asked + " answers asked, " + wrong + " are not as due");
    if (wrong != 0) {
      System.exit(1);
    }
  }

  private static void run(Method m) {
    test = m.getName();
    place = "";
    fresh();
    try {
      m.invoke(null);
    } catch (ReflectiveOperationException e) {
      report("the test itself threw " + e.getCause());
    }
    if (place.isEmpty()) {
      report("the test does not say to which sentence it belongs");
    }
  }

  private static void allPlacesHaveATest() {
    test = "all places";
    place = "";
    for (int promise = 1; promise <= 35; promise++) {
      due("a test of Promise " + promise, PLACES.contains("Promise " + promise) ? 1 : 0, 1);
    }
    for (int part = 1; part <= 6; part++) {
      due("a test of Terms, part " + part, PLACES.contains("Terms, part " + part) ? 1 : 0, 1);
    }
  }

  // ---- what tests are written with

  private static String oneLine(String text) {
    return text.replaceAll("\\s+", " ");
  }

  /** To be said by each test: where the document names the case, and its words there. */
  private static void sentence(String where, String words) {
    place = where + ", \"" + words + "\"";
    PLACES.add(where);
    if (document != null && !document.contains(oneLine(words))) {
      report("the document does not say so");
    }
  }

  private static void report(String what) {
    wrong++;
    System.out.println(test + " (" + place + "): " + what);
  }

  private static void due(String what, long got, long want) {
    asked++;
    if (got != want) {
      report(what + " answered " + got + ", due is " + want);
    }
  }

  private static String told(String call, int... a) {
    String row = Arrays.toString(a);
    return call + "(" + row.substring(1, row.length() - 1) + ")";
  }

  private static void fresh() {
    pool = new Pool();
    STEPS.clear();
  }

  private static long ask(Pool of, String call, int... a) {
    of.calls++;
    if (of.calls == MOST_CALLS + 1) {
      report("the test makes more calls than are promised");
    }
    Object[] arguments = new Object[a.length];
    for (int i = 0; i < a.length; i++) {
      arguments[i] = a[i];
    }
    try {
      return ((Number) CALLS.get(call).invoke(of.x, arguments)).longValue();
    } catch (InvocationTargetException e) {
      report(told(call, a) + " threw " + e.getCause());
      return THREW;
    } catch (IllegalAccessException e) {
      throw new IllegalStateException(e);
    }
  }

  private static long step(String call, int... a) {
    STEPS.add(new Step(call, a));
    return ask(pool, call, a);
  }

  private static void is(long want, String call, int... a) {
    due(told(call, a), step(call, a), want);
  }

  private static void areFraction(long above, long below, String call, int... a) {
    int[] whole = Arrays.copyOf(a, a.length + 1);
    is(above, call, whole);
    whole = whole.clone();
    whole[a.length] = 1;
    is(below, call, whole);
  }

  /** A call that only leads up to what a test asks; it must not be refused. */
  private static long does(String call, int... a) {
    long got = step(call, a);
    if (call.equals("time") ? got == BAD_TIME : got < 0) {
      report(told(call, a) + " was refused by " + got);
    }
    return got;
  }

  private static int[] row(int... values) {
    return values;
  }

  /** A race with one swim for each row: swimmer, lane, times. */
  private static int raceOf(int lengths, int day, int[]... rows) {
    int race = (int) does("race", lengths, day);
    for (int[] row : rows) {
      int swim = (int) does("swim", race, row[0], row[1]);
      for (int k = 2; k < row.length; k++) {
        does("time", swim, k - 2, row[k]);
      }
    }
    return race;
  }

  private static void typed(int text, String bytes) {
    for (int i = 0; i < bytes.length(); i++) {
      does("type", text, bytes.charAt(i));
    }
  }

  private static void retyped(int text, String bytes) {
    does("wipe", text);
    typed(text, bytes);
  }

  // ---- refusals

  private static void refused(long want, String call, int... a) {
    int finding = want <= NULL && want >= SIZE ? (int) (-10 - want) : 0;
    refusedBy(finding, want, call, a);
  }

  private static void refusedBy(int finding, long want, String call, int... a) {
    Pool left = twin(finding);
    Pool refused = twin(finding);
    due(told(call, a), ask(refused, call, a), want);
    long latest = ask(left, "count", 8);
    due("count(8) behind " + told(call, a), ask(refused, "count", 8), finding == 0 ? latest : finding);
    if (!stateOf(left).equals(stateOf(refused))) {
      report(told(call, a) + " was refused, but changed something");
    }
    due(told(call, a), ask(pool, call, a), want);
  }

  /** With a FINDING of another number ahead, so that one that is not due, or not told, shows. */
  private static Pool twin(int finding) {
    Pool twin = new Pool();
    for (Step s : STEPS) {
      ask(twin, s.call, s.a);
    }
    if (finding != 5) {
      ask(twin, "sheet", 0, 0, -1);
    }
    return twin;
  }

  /** All that can be asked of an object; it is of no use afterwards. */
  private static List<Long> stateOf(Pool of) {
    List<Long> all = new ArrayList<>();
    for (int what = 0; what <= 7; what++) {
      all.add(ask(of, "count", what));
    }
    all.add(ask(of, "digest"));
    for (int swim = 0; swim < Math.min(64, all.get(1)); swim++) {
      for (int what = 0; what <= 2; what++) {
        all.add(ask(of, "about", swim, what));
      }
    }
    for (int swimmer = 0; swimmer < 24; swimmer++) {
      all.add(ask(of, "seeds", swimmer, 1));
    }
    for (int s = 0; s < 4; s++) {
      addSheet(all, of, s);
    }
    return all;
  }

  private static void addSheet(List<Long> all, Pool of, int s) {
    int kind = NONE;
    for (int type = 0; type < 3; type++) {
      ask(of, "get", s, type, -1);
      long finding = ask(of, "count", 8);
      all.add(finding);
      if (finding == 2) {
        kind = type;
      }
    }
    if (kind == NONE) {
      return;
    }
    int size = 0;
    for (int more = 32; more > 0; more /= 2) {
      int end = size + more;
      if (end <= 48 && ask(of, "copy", s, end, s, end, 0) == 1) {
        size = end;
      }
    }
    all.add((long) size);
    for (int i = 0; i < size; i++) {
      all.add(ask(of, "get", s, kind, i));
    }
  }

  // ---- What it is

  private static void what_lanes() {
    sentence("What it is", "LANES are 0 to 7");
    does("race", 2, 0);
    is(0, "swim", 0, 0, 0);
    is(1, "swim", 0, 1, 7);
    for (int lane : new int[] {-1, 8, LEAST, MOST}) {
      refused(BAD, "swim", 0, 2, lane);
      refused(BAD, "counts", lane);
      refused(LONG_BAD, "lane", lane, 0, 0);
      refused(BAD, "twice", lane, 0);
      refused(BAD, "twice", 7, lane);
    }
    for (int lane : new int[] {0, 7}) {
      is(lane, "about", lane == 0 ? 0 : 1, 2);
      is(0, "counts", lane);
      is(LONG_NOT, "lane", lane, 0, 0);
      is(0, "twice", lane, 7 - lane);
      is(0, "world", lane);
    }
  }

  private static void what_swimmers() {
    sentence("What it is", "SWIMMERS 0 to 23");
    does("race", 2, 0);
    is(0, "swim", 0, 0, 0);
    is(1, "swim", 0, 23, 1);
    is(0, "about", 0, 1);
    is(23, "about", 1, 1);
    is(3000, "seeds", 0, 5);
    is(3000, "seeds", 23, 6);
    is(LONG_NOT, "own", 0, 0);
    is(LONG_NOT, "own", 23, 1);
    is(1, "made", 1, 0, 0, 1, 0);
    is(2, "made", 1, 0, 23, 1, 0);
    for (int swimmer : new int[] {-1, 24, LEAST, MOST}) {
      refused(BAD, "swim", 0, swimmer, 2);
      refused(BAD, "seeds", swimmer, 5);
      refused(LONG_BAD, "own", swimmer, 0);
      refused(BAD, "made", 1, 0, swimmer, 1, 0);
    }
  }

  private static void what_days() {
    sentence("What it is", "DAYS 0 to 9");
    is(0, "race", 1, 0);
    is(1, "race", 1, 9);
    is(2, "made", 1, 0, 0, 1, 0);
    is(3, "made", 1, 9, 0, 1, 0);
    is(0, "about", 0, 3);
    is(9, "about", 1, 3);
    is(0, "lean", 0, 0);
    is(0, "lean", 9, 9);
    is(0, "lean", 0, 9);
    for (int day : new int[] {-1, 10, LEAST, MOST}) {
      refused(BAD, "race", 1, day);
      refused(BAD, "made", 1, day, 0, 1, 0);
      refused(BAD_LEAN, "lean", day, 9);
      refused(BAD_LEAN, "lean", 0, day);
      refused(BAD_LEAN, "lean", day, day);
    }
  }

  private static void what_calls() {
    sentence("What it is", "An object is used for at most 512 calls after it has been made");
    does("race", 1, 0);
    does("swim", 0, 0, 0);
    for (int call = 3; call <= 510; call++) {
      is(call == 3 ? -1 : 9996 - call, "time", 0, 0, 9995 - call);
    }
    is(9485, "count", 7);
    is(9485, "time", 0, 0, -1);
    due("calls that were made", pool.calls, MOST_CALLS);
  }

  // ---- Terms, part 1

  private static void terms1_sixteenRaces() {
    sentence("Terms, part 1", "RACES, 16 at most");
    for (int r = 0; r < 16; r++) {
      is(r, "race", 1 + r % 4, r % 10);
    }
    refused(FULL, "race", 1, 0);
    refused(FULL, "race", 4, 9);
    refused(FULL, "made", 1, 0, 0, 1, 7);
    is(16, "count", 0);
    refused(BAD, "swim", 16, 0, 0);
    is(0, "swim", 15, 0, 0);
    is(15, "about", 0, 0);
    is(4, "about", 0, 4);
    fresh();
    for (int r = 0; r < 15; r++) {
      is(r, "race", 1, 0);
    }
    is(15, "made", 1, 0, 0, 8, 7);
    refused(FULL, "made", 1, 0, 8, 1, 7);
    refused(FULL, "race", 1, 0);
  }

  private static void terms1_oneToFourLengths() {
    sentence("Terms, part 1", "have LENGTHS (1 to 4) and a DAY");
    for (int lengths = 1; lengths <= 4; lengths++) {
      is(lengths - 1, "race", lengths, 0);
      is(lengths - 1, "swim", lengths - 1, 0, 0);
      is(lengths, "about", lengths - 1, 4);
      is(-1, "time", lengths - 1, lengths - 1, 5);
      refused(BAD_TIME, "time", lengths - 1, lengths, 5);
      refused(BAD_TIME, "time", lengths - 1, -1, 5);
    }
    is(4, "made", 1, 0, 0, 1, 0);
    is(5, "made", 4, 0, 0, 1, 0);
    is(1, "about", 4, 5);
    is(4, "about", 5, 5);
    for (int lengths : new int[] {0, 5, -1, LEAST, MOST}) {
      refused(BAD, "race", lengths, 0);
      refused(BAD, "made", lengths, 0, 0, 1, 0);
    }
  }

  private static void terms1_sixtyFourSwims() {
    sentence("Terms, part 1", "SWIMS, 64 at most");
    for (int i = 0; i < 64; i++) {
      if (i % 8 == 0) {
        does("race", 1, 0);
      }
      is(i, "swim", i / 8, i % 8, 7 - i % 8);
    }
    does("race", 1, 0);
    refused(FULL, "swim", 8, 0, 0);
    refused(FULL, "swim", 8, 23, 7);
    refused(FULL, "made", 1, 0, 0, 1, 1);
    refused(BAD_TIME, "time", 64, 0, 5);
    refused(BAD, "about", 64, 0);
    is(64, "count", 1);
    is(-1, "time", 63, 0, 9999);
    is(9999, "about", 63, 6);
    is(-1, "time", 0, 0, -1);
  }

  private static void terms1_sixtyFourSwimsMade() {
    sentence("Terms, part 1", "SWIMS, 64 at most");
    for (int race = 0; race < 7; race++) {
      is(race, "made", 1, 0, 0, 8, 1);
    }
    is(7, "made", 1, 0, 0, 7, 1);
    refused(FULL, "made", 1, 0, 0, 2, 1);
    is(63, "count", 1);
    is(8, "made", 1, 0, 23, 1, 1);
    is(23, "about", 63, 1);
    refused(FULL, "made", 1, 0, 0, 1, 1);
    refused(FULL, "swim", 8, 0, 1);
  }

  private static void terms1_oneLaneEach() {
    sentence("Terms, part 1", "each in one LANE there, each LANE one's");
    does("race", 1, 0);
    does("race", 1, 0);
    for (int i = 0; i < 8; i++) {
      is(i, "swim", 0, i, 7 - i);
    }
    for (int i = 0; i < 8; i++) {
      refused(BAD, "swim", 0, 8, i);
      refused(BAD, "swim", 0, i, i);
    }
    is(8, "swim", 1, 0, 0);
    refused(BAD, "swim", 1, 0, 0);
    refused(BAD, "swim", 1, 0, 1);
    refused(BAD, "swim", 1, 1, 0);
    is(9, "swim", 1, 1, 1);
    is(10, "swim", 1, 23, 7);
    refused(BAD, "swim", 1, 23, 6);
    refused(BAD, "swim", 1, 22, 7);
  }

  private static void terms1_oneToHundredSeconds() {
    sentence("Terms, part 1", "with a TIME for each LENGTH, in hundredths (1 to 9999), or not felt (-1)");
    raceOf(2, 0, row(0, 0));
    is(-1, "time", 0, 0, 1);
    is(1, "time", 0, 0, 9999);
    is(-1, "time", 0, 1, 9999);
    for (int v : new int[] {0, -2, 10000, LEAST, MOST}) {
      refused(BAD_TIME, "time", 0, 0, v);
    }
    is(9999, "time", 0, 0, -1);
    is(-1, "time", 0, 0, -1);
    is(9999, "time", 0, 1, 1);
    is(1, "count", 4);
  }

  private static void terms1_outAndHome() {
    sentence("Terms, part 1", "LENGTHS 0, 2 are OUT, 1, 3 HOME.");
    raceOf(4, 0, row(0, 0, 100, 90), row(1, 1, -1, -1, 100, 93), row(2, 2, 100, -1, -1, 95),
        row(3, 3, -1, 98, 100), row(4, 4, 100, -1, 100), row(5, 5, -1, 100, -1, 100));
    raceOf(3, 0, row(0, 0, 100, 90, 104));
    raceOf(2, 0, row(0, 0, 100, 99));
    raceOf(1, 0, row(0, 0, 100));
    areFraction(10, 1, "diff", 0);
    areFraction(7, 1, "diff", 1);
    areFraction(5, 1, "diff", 2);
    areFraction(2, 1, "diff", 3);
    refused(LONG_NOT, "diff", 4, 0);
    refused(LONG_NOT, "diff", 5, 0);
    areFraction(12, 1, "diff", 6);
    areFraction(1, 1, "diff", 7);
    refused(LONG_NOT, "diff", 8, 0);
  }

  private static void terms1_total() {
    sentence("Terms, part 1", "TOTAL: all TIMES together, if each was felt.");
    raceOf(4, 0, row(0, 0, 9999, 9999, 9999), row(1, 1, 1, 1, 1, 1));
    raceOf(1, 0, row(0, 0));
    is(NONE, "about", 0, 6);
    does("time", 0, 3, 9999);
    is(39996, "about", 0, 6);
    is(4, "about", 1, 6);
    for (int length = 0; length < 4; length++) {
      does("time", 1, length, -1);
      is(NONE, "about", 1, 6);
      does("time", 1, length, 1);
    }
    is(NONE, "about", 2, 6);
    does("time", 2, 0, 1);
    is(1, "about", 2, 6);
  }

  private static void terms1_seeds() {
    sentence("Terms, part 1", "what a SWIMMER is said to swim for a LENGTH (1 to 9999; 3000 at first)");
    for (int swimmer = 0; swimmer < 24; swimmer++) {
      is(3000, "seeds", swimmer, 1);
      is(1, "seeds", swimmer, 9999);
    }
    for (int v : new int[] {0, -1, 10000, LEAST, MOST}) {
      refused(BAD, "seeds", 0, v);
      refused(BAD, "seeds", 23, v);
    }
    is(9999, "seeds", 0, 3000);
    is(9999, "seeds", 23, 3000);
  }

  private static void terms1_fractions() {
    sentence("Terms, part 1", "FRACTIONS are told in lowest terms, above and below (0 by 1).");
    raceOf(4, 0, row(0, 0, 100, 100, 100, 100), row(1, 1, 101, 100, 100, 100), row(2, 2, 100, 100, 100, 101),
        row(3, 3, 102, 100, 100, 100), row(4, 4, 9999, 1, 9999, 1), row(5, 5, 1, 9999, 1, 9999));
    areFraction(0, 1, "diff", 0);
    areFraction(1, 2, "diff", 1);
    areFraction(-1, 2, "diff", 2);
    areFraction(1, 1, "diff", 3);
    areFraction(9998, 1, "diff", 4);
    areFraction(-9998, 1, "diff", 5);
    // lane 1 has 1/2 and 0, lane 2 has -1/2 and 1/2
    raceOf(4, 0, row(0, 1, 100, 100, 100, 100), row(1, 2, 101, 100, 100, 100));
    areFraction(1, 4, "lane", 1, 0);
    areFraction(0, 1, "lane", 2, 0);
    areFraction(0, 1, "lane", 0, 0);
    // swimmer 0: 0 - 0 and 0 - 1/4; swimmer 1: 1/2 - 1/4 and 1/2 - 0; swimmer 3: 1 - 1
    areFraction(-1, 8, "own", 0);
    areFraction(3, 8, "own", 1);
    areFraction(0, 1, "own", 3);
  }

  /** COUNTS whose least common multiple is 360360, of 58 SWIMS together. */
  private static void terms1_fractionsOfUnlikeCounts() {
    sentence("Terms, part 1", "FRACTIONS are told in lowest terms");
    int[] counts = {13, 8, 11, 4, 9, 5, 7, 1};
    int[] out = {1, 1250, 2600, 4000, 5300, 6600, 8000, 9999};
    int[] home = {9999, 8000, 7001, 6001, 4703, 3301, 1903, 1};
    for (int race = 0; race < 13; race++) {
      does("race", 3, race % 10);
      for (int lane = 0; lane < 8; lane++) {
        if (counts[lane] > race) {
          int swim = (int) does("swim", race, (lane * 3 + race) % 24, lane);
          does("time", swim, 0, out[lane]);
          does("time", swim, 1, race == 0 && lane < 7 ? home[lane] - 1 : home[lane]);
          if (race == 0) {
            does("time", swim, 2, lane == 0 ? 2 : out[lane] - 1);
          }
        }
      }
    }
    raceOf(1, 0, row(0, 0, 5000), row(1, 1, 5000), row(2, 2, 5000), row(3, 3, 5000), row(4, 4, 5000), row(5, 5, 5000));
    is(64, "count", 1);
    // worked out by a script with whole fractions, as are the ones below; they rise, so the SHAPE is as they are
    long[][] diffs = {{-259945, 26}, {-107999, 16}, {-96821, 22}, {-16007, 8}, {10747, 18}, {32991, 10}, {85359, 14},
        {19995, 2}};
    long[][] pushes = {{-55368703007L, 5765760}, {-36641819447L, 5765760}, {-23098147487L, 5765760},
        {-9259864847L, 5765760}, {5719179233L, 5765760}, {21298519009L, 5765760}, {5347278679L, 823680},
        {59919885793L, 5765760}};
    for (int lane = 0; lane < 8; lane++) {
      is(counts[lane], "counts", lane);
      areFraction(diffs[lane][0], diffs[lane][1], "lane", lane, 0);
      areFraction(pushes[lane][0], pushes[lane][1], "lane", lane, 1);
      areFraction(diffs[lane][0], diffs[lane][1], "lane", lane, 2);
    }
    long[] rights = {113026303007L, 94299419447L, 80755747487L, 66917464847L, 51938420767L, 36359080991L};
    for (int lane = 0; lane < 6; lane++) {
      areFraction(rights[lane], 11531520, "right", 58 + lane);
    }
    areFraction(1633, 41184, "own", 12);
    areFraction(-797, 9152, "own", 10);
    is(6768261227675135070L, "digest");
  }

  private static void terms1_fourSheets() {
    sentence("Terms, part 1", "SHEETS 0 .. 3 are LOST (at first)");
    for (int s = 0; s < 4; s++) {
      refused(NULL, "lose", s);
      refused(NULL, "put", s, 0, 0, 1);
      refusedBy(1, LEAST, "get", s, 0, 0);
      refused(NULL, "copy", s, 0, s, 0, 0);
    }
    for (int s : new int[] {-1, 4, LEAST, MOST}) {
      refused(BAD, "sheet", s, 0, 1);
      refused(BAD, "lose", s);
      refused(BAD, "put", s, 0, 0, 1);
      refusedBy(0, LEAST, "get", s, 0, 0);
      refused(BAD, "copy", s, 0, 0, 0, 0);
      refused(BAD, "copy", 0, 0, s, 0, 0);
    }
    for (int s = 0; s < 4; s++) {
      is(s, "sheet", s, 0, s);
    }
    for (int s = 3; s >= 0; s--) {
      is(s, "lose", s);
    }
  }

  private static void terms1_threeTypes() {
    sentence("Terms, part 1", "a row of a TYPE: 0 bytes, 1 shorts, 2 ints");
    for (int type : new int[] {-1, 3, LEAST, MOST}) {
      refused(BAD, "sheet", 0, type, 1);
    }
    int[] most = {127, 32767, MOST};
    int[] least = {-128, -32768, LEAST};
    for (int type = 0; type < 3; type++) {
      is(2, "sheet", type, type, 2);
      is(1, "put", type, type, 0, most[type]);
      is(1, "put", type, type, 1, least[type]);
      is(most[type], "get", type, type, 0);
      is(least[type], "get", type, type, 1);
      // one more than the most is the least
      is(1, "put", type, type, 0, most[type] + 1);
      is(1, "put", type, type, 1, least[type] - 1);
      is(least[type], "get", type, type, 0);
      is(most[type], "get", type, type, 1);
    }
    for (int type : new int[] {-1, 3, LEAST, MOST}) {
      refused(BAD, "sheet", 0, type, 1);
      refused(BAD, "put", 0, type, 0, 1);
      refusedBy(0, LEAST, "get", 0, type, 0);
    }
  }

  private static void terms1_fortyEightItems() {
    sentence("Terms, part 1", "of 0 to 48 items (0 at first)");
    for (int type = 0; type < 3; type++) {
      is(48, "sheet", 3, type, 48);
      for (int i = 0; i < 48; i++) {
        is(0, "get", 3, type, i);
      }
      is(1, "put", 3, type, 47, -1);
      is(1, "put", 3, type, 0, -1);
      refused(INDEX, "put", 3, type, 48, 1);
      refused(INDEX, "put", 3, type, -1, 1);
      refused(BAD, "sheet", 3, type, 49);
      refused(BAD, "sheet", 3, type, MOST);
      refused(SIZE, "sheet", 3, type, -1);
      refused(SIZE, "sheet", 3, type, LEAST);
      is(-1, "get", 3, type, 47);
    }
    is(0, "sheet", 3, 2, 0);
    refused(INDEX, "put", 3, 2, 0, 1);
    refusedBy(2, LEAST, "get", 3, 2, 0);
    is(48, "sheet", 3, 2, 48);
    is(0, "get", 3, 2, 0);
    is(0, "get", 3, 2, 47);
  }

  private static void terms1_findings() {
    sentence("Terms, part 1", "FINDINGS (answers -10 less the number; they change nothing but count() 8)");
    is(0, "count", 8);
    is(-11, "lose", 3);
    is(1, "count", 8);
    does("sheet", 0, 0, 1);
    does("sheet", 1, 1, 1);
    is(1, "count", 8);
    is(-12, "put", 0, 0, 1, 5);
    is(2, "count", 8);
    is(-13, "put", 0, 1, 0, 5);
    is(3, "count", 8);
    is(-14, "copy", 0, 0, 1, 0, 1);
    is(4, "count", 8);
    is(-15, "sheet", 0, 0, -1);
    is(5, "count", 8);
    is(BAD, "sheet", 4, 0, -1);
    is(5, "count", 8);
    is(-11, "lose", 3);
    is(1, "count", 8);
    is(1, "put", 0, 0, 0, 5);
    is(1, "count", 8);
    refused(NULL, "lose", 3);
    refused(INDEX, "put", 0, 0, 1, 5);
    refused(CAST, "put", 0, 1, 0, 6);
    refused(STORE, "copy", 0, 0, 1, 0, 1);
    refused(SIZE, "sheet", 0, 0, -1);
    is(5, "get", 0, 0, 0);
    is(0, "get", 1, 1, 0);
  }

  private static void terms1_findingNull() {
    sentence("Terms, part 1", "1 NULL: the SHEET is LOST");
    raceOf(1, 0, row(0, 0, 5));
    for (int s = 0; s < 4; s += 3) {
      // LOST at first, then with no items at all, then LOST anew
      refused(-11, "read", s, 0);
      refused(-11, "write", 0, s);
      is(0, "sheet", s, 2, 0);
      is(0, "read", s, 0);
      is(0, "write", 0, s);
      is(1, "copy", s, 0, s, 0, 0);
      is(0, "lose", s);
      refused(-11, "read", s, 0);
      refused(-11, "write", 0, s);
      refused(-11, "copy", s, 0, s, 0, 0);
      refused(-11, "lose", s);
    }
  }

  private static void terms1_findingIndex() {
    sentence("Terms, part 1", "2 INDEX: there is no such item");
    for (int size = 0; size <= 48; size += 16) {
      is(size, "sheet", 1, 1, size);
      refused(-12, "put", 1, 1, size, 3);
      refused(-12, "put", 1, 1, -1, 3);
      refusedBy(2, LEAST, "get", 1, 1, size);
      refusedBy(2, LEAST, "get", 1, 1, -1);
      refused(-12, "copy", 1, 0, 1, 0, size + 1);
      if (size > 0) {
        is(1, "put", 1, 1, size - 1, 3);
        is(3, "get", 1, 1, size - 1);
      }
      is(1, "copy", 1, 0, 1, 0, size);
    }
    // items that a greater row had are not there any more
    is(1, "sheet", 1, 1, 1);
    refusedBy(2, LEAST, "get", 1, 1, 1);
  }

  private static void terms1_findingCast() {
    sentence("Terms, part 1", "3 CAST: it has another TYPE");
    for (int type = 0; type < 3; type++) {
      does("sheet", 2, type, 1);
      for (int as = 0; as < 3; as++) {
        if (as == type) {
          is(1, "put", 2, as, 0, 7);
          is(7, "get", 2, as, 0);
        } else {
          refused(-13, "put", 2, as, 0, 8);
          refusedBy(3, LEAST, "get", 2, as, 0);
        }
      }
      is(7, "get", 2, type, 0);
    }
  }

  private static void terms1_findingStore() {
    sentence("Terms, part 1", "4 STORE: unlike TYPES");
    for (int type = 0; type < 3; type++) {
      does("sheet", 0, type, 1);
      does("put", 0, type, 0, 7);
      for (int other = 0; other < 3; other++) {
        does("sheet", 3, other, 1);
        if (other == type) {
          is(1, "copy", 0, 0, 3, 0, 1);
          is(7, "get", 3, other, 0);
        } else {
          // also to a TYPE that would hold all of it
          refused(-14, "copy", 0, 0, 3, 0, 1);
          refused(-14, "copy", 3, 0, 0, 0, 0);
          is(0, "get", 3, other, 0);
        }
      }
    }
  }

  private static void terms1_findingSize() {
    sentence("Terms, part 1", "5 SIZE: below 0.");
    refused(-15, "sheet", 0, 0, -1);
    refused(NULL, "lose", 0);
    is(0, "sheet", 0, 0, 0);
    refused(-15, "sheet", 0, 2, -1);
    refused(-15, "sheet", 0, 2, -49);
    refused(-15, "sheet", 0, 2, LEAST);
    // its TYPE stayed
    is(48, "sheet", 0, 1, 48);
    refused(-15, "sheet", 0, 1, -1);
    is(1, "put", 0, 1, 47, 7);
    is(48, "lose", 0);
  }

  // ---- Terms, part 2

  private static void terms2_diffOrNot() {
    sentence("Terms, part 2", "less that of those HOME; NOT, if one of both has none.");
    raceOf(4, 0, row(0, 0), row(1, 1, 10, -1, 20, -1), row(2, 2, -1, 10, -1, 20), row(3, 3, -1, -1, 7, 5));
    raceOf(1, 0, row(0, 0, 10));
    for (int swim : new int[] {0, 1, 2, 4}) {
      refused(LONG_NOT, "diff", swim, 0);
      refused(LONG_NOT, "diff", swim, 1);
    }
    areFraction(2, 1, "diff", 3);
    is(1, "count", 3);
    does("time", 1, 3, 16);
    areFraction(-1, 1, "diff", 1);
    does("time", 3, 2, -1);
    refused(LONG_NOT, "diff", 3, 0);
  }

  private static void terms2_meanOfThoseFelt() {
    sentence("Terms, part 2", "the mean of its TIMES OUT that were felt less that of those HOME");
    raceOf(4, 0, row(0, 0, 9999, 1, 9999, 1));
    areFraction(9998, 1, "diff", 0);
    does("time", 0, 2, 9998);
    areFraction(19995, 2, "diff", 0);
    does("time", 0, 2, -1);
    areFraction(9998, 1, "diff", 0);
    does("time", 0, 3, 2);
    areFraction(19995, 2, "diff", 0);
    does("time", 0, 1, -1);
    areFraction(9997, 1, "diff", 0);
    does("time", 0, 0, 1);
    does("time", 0, 3, 9999);
    areFraction(-9998, 1, "diff", 0);
  }

  private static void terms2_countOfLanes() {
    sentence("Terms, part 2", "DIFF of a LANE: the mean of DIFFS of SWIMS in it; COUNT: of how many.");
    for (int race = 0; race < 16; race++) {
      is(race, "counts", 7);
      // 0, 1, .. 15 and, not counted, one that has no DIFF
      raceOf(2, 0, row(0, 7, 100 + race, 100), row(1, 6, 100));
    }
    is(16, "counts", 7);
    is(0, "counts", 6);
    areFraction(15, 2, "lane", 7, 0);
    refused(LONG_NOT, "lane", 6, 0, 0);
    does("time", 30, 1, -1);
    is(15, "counts", 7);
    areFraction(7, 1, "lane", 7, 0);
  }

  private static void terms2_pushOfThoseThatHaveOne() {
    sentence("Terms, part 2", "its DIFF less the mean of all LANES' DIFFS (of those that have one)");
    raceOf(2, 0, row(0, 7, 150, 100), row(1, 0, 100), row(2, 3));
    areFraction(0, 1, "lane", 7, 1);
    refused(LONG_NOT, "lane", 0, 1, 0);
    does("time", 1, 1, 101);
    // 50 and -1: the mean of both is 49/2, however often a lane was swum
    areFraction(51, 2, "lane", 7, 1);
    areFraction(-51, 2, "lane", 0, 1);
    raceOf(2, 0, row(0, 0, 100, 101));
    areFraction(-51, 2, "lane", 0, 1);
    refused(LONG_NOT, "lane", 3, 1, 0);
    for (int lane = 1; lane < 7; lane++) {
      raceOf(2, 0, row(0, lane, 100, 100));
    }
    // all eight: the mean is 49/8
    areFraction(351, 8, "lane", 7, 1);
    areFraction(-57, 8, "lane", 0, 1);
    areFraction(-49, 8, "lane", 3, 1);
  }

  private static void terms2_helpsOutward() {
    sentence("Terms, part 2", "(TIMES OUT are those that a push makes greater: below 0 it helps outward.)");
    typed(1, "p0=-1;p7=1;p3=-99;p4=99");
    is(0, "made", 2, 0, 0, 8, 5);
    int[] due = {-2, 0, 0, -198, 198, 0, 0, 2};
    for (int lane = 0; lane < 8; lane++) {
      areFraction(due[lane], 1, "lane", lane, 0);
      // the mean is 0
      areFraction(due[lane], 1, "lane", lane, 1);
    }
  }

  /** 64 SWIMS, eight in each lane, of the greatest DIFFS that there are. */
  private static void fullOfGreatestDiffs(boolean rising) {
    fresh();
    for (int race = 0; race < 8; race++) {
      does("race", 2, race);
      for (int lane = 0; lane < 8; lane++) {
        int swim = (int) does("swim", race, (lane + race) % 24, lane);
        boolean above = (lane == 7) == rising;
        does("time", swim, 0, above ? 9999 : 1);
        does("time", swim, 1, above ? 1 : 9999);
      }
    }
  }

  private static void terms2_greatestDiffs() {
    sentence("Terms, part 2", "its DIFF less the mean of all LANES' DIFFS");
    fullOfGreatestDiffs(true);
    // seven lanes have -9998, one has 9998: the mean is -6 / 8 of 9998
    for (int lane = 0; lane < 7; lane++) {
      areFraction(-9998, 1, "lane", lane, 0);
      areFraction(-4999, 2, "lane", lane, 1);
      areFraction(-9998, 1, "lane", lane, 2);
    }
    areFraction(9998, 1, "lane", 7, 0);
    areFraction(34993, 2, "lane", 7, 1);
    areFraction(9998, 1, "lane", 7, 2);
    fullOfGreatestDiffs(false);
    // the last one falls: all are joined
    for (int lane = 0; lane < 8; lane++) {
      areFraction(14997, 2, "lane", lane, 2);
    }
    areFraction(4999, 2, "lane", 0, 1);
    areFraction(-34993, 2, "lane", 7, 1);
    areFraction(0, 1, "own", 13);
    is(0, "lean", 8, 9);
    is(-7, "lean", 0, 0);
    is(-56, "lean", 0, 9);
  }

  private static void shapesAre(long... parts) {
    for (int lane = 0; lane < 8; lane++) {
      areFraction(parts[2 * lane], parts[2 * lane + 1], "lane", lane, 2);
    }
  }

  private static void terms2_shapeNeverFalls() {
    sentence("Terms, part 2", "as long as some is less than the one ahead, both, and all that were joined with them, "
        + "are joined: the mean by COUNTS.");
    int race = raceOf(2, 0);
    for (int lane = 0; lane < 8; lane++) {
      does("swim", race, lane, lane);
      does("time", lane, 0, 100);
      does("time", lane, 1, 100);
    }
    // none is less
    shapesAre(0, 1, 0, 1, 0, 1, 0, 1, 0, 1, 0, 1, 0, 1, 0, 1);
    does("time", 7, 0, 101);
    shapesAre(0, 1, 0, 1, 0, 1, 0, 1, 0, 1, 0, 1, 0, 1, 1, 1);
    // the last is less than the one ahead, and so on: all are joined
    does("time", 7, 0, 99);
    shapesAre(-1, 8, -1, 8, -1, 8, -1, 8, -1, 8, -1, 8, -1, 8, -1, 8);
    // the first one is greater than all others
    does("time", 7, 0, 100);
    does("time", 0, 0, 108);
    shapesAre(1, 1, 1, 1, 1, 1, 1, 1, 1, 1, 1, 1, 1, 1, 1, 1);
    // 8, 0, then 5, 4: two pools of their own, the latter does not fall behind the former
    does("time", 2, 0, 105);
    does("time", 3, 0, 104);
    for (int lane = 4; lane < 8; lane++) {
      does("time", lane, 0, 101 + lane);
    }
    shapesAre(4, 1, 4, 1, 9, 2, 9, 2, 5, 1, 6, 1, 7, 1, 8, 1);
    // lane 3 a little less: now 8, 0, 5, 2 are joined, as 7/2 is less than 4
    does("time", 3, 0, 102);
    shapesAre(15, 4, 15, 4, 15, 4, 15, 4, 5, 1, 6, 1, 7, 1, 8, 1);
  }

  private static void terms2_shapeByCounts() {
    sentence("Terms, part 2", "(LANES without one are left out)");
    // lane 1: 9 of one; lane 4: 0 of three; lane 6: 2 of one: the first two are (9 + 0 + 0 + 0) / 4
    raceOf(2, 0, row(0, 1, 109, 100), row(1, 4, 100, 100), row(2, 6, 102, 100), row(3, 0, 1), row(4, 5, -1, 1));
    raceOf(2, 0, row(0, 4, 100, 100));
    raceOf(2, 0, row(0, 4, 100, 100));
    // 9/4 is more than 2: all five, 11/5
    for (int lane : new int[] {1, 4, 6}) {
      areFraction(11, 5, "lane", lane, 2);
    }
    does("time", 2, 0, 103);
    areFraction(9, 4, "lane", 1, 2);
    areFraction(9, 4, "lane", 4, 2);
    areFraction(3, 1, "lane", 6, 2);
    for (int lane : new int[] {0, 2, 3, 5, 7}) {
      refused(LONG_NOT, "lane", lane, 2, 0);
    }
    fresh();
    raceOf(2, 0, row(0, 5, 1, 9999));
    areFraction(-9998, 1, "lane", 5, 2);
  }

  private static void terms2_lean() {
    sentence("Terms, part 2", "in how many that in the greater LANE has the greater DIFF, less in how many the lesser.");
    raceOf(2, 3, row(0, 7, 100, 100), row(1, 0, 100, 100), row(2, 4, 100));
    is(0, "lean", 3, 3);
    does("time", 0, 0, 101);
    is(1, "lean", 3, 3);
    does("time", 0, 0, 99);
    is(-1, "lean", 3, 3);
    does("time", 2, 1, 100);
    // lanes 0, 4, 7 have 0, 0, -1
    is(-2, "lean", 3, 3);
    does("time", 2, 1, -1);
    // another race of the day is not compared with it
    raceOf(2, 3, row(3, 5, 9999, 1));
    is(-1, "lean", 3, 3);
    fresh();
    int race = raceOf(2, 9);
    for (int lane = 0; lane < 8; lane++) {
      does("swim", race, lane, lane);
      does("time", lane, 0, 100 + lane);
      does("time", lane, 1, 100);
    }
    is(28, "lean", 9, 9);
    for (int lane = 0; lane < 8; lane++) {
      does("time", lane, 0, 100 - lane);
    }
    is(-28, "lean", 9, 9);
    is(0, "lean", 0, 8);
  }

  private static void terms2_leanOfTheseDays() {
    sentence("Terms, part 2", "over all pairs of SWIMS of one RACE on these DAYS that have a DIFF");
    for (int day : new int[] {0, 4, 5, 9}) {
      raceOf(2, day, row(0, 0, 100, 100), row(1, 1, 101, 100));
    }
    is(4, "lean", 0, 9);
    is(3, "lean", 1, 9);
    is(3, "lean", 0, 8);
    is(2, "lean", 1, 8);
    is(2, "lean", 4, 5);
    is(1, "lean", 4, 4);
    is(1, "lean", 5, 8);
    is(0, "lean", 6, 8);
    is(0, "lean", 1, 3);
  }

  private static void terms2_chanceOfSeven() {
    sentence("Terms, part 2", "could be dealt over these LANES (7 at most: FULL)");
    int race = raceOf(2, 0);
    for (int i = 0; i < 8; i++) {
      does("swim", race, i, 7 - i);
      does("time", i, 0, 107 - i);
    }
    refused(NOT, "chance");
    does("time", 0, 1, 100);
    refused(NOT, "chance");
    int[] orders = {1, 1, 2, 6, 24, 120, 720, 5040};
    for (int lanes = 2; lanes <= 7; lanes++) {
      does("time", lanes - 1, 1, 100);
      // a rise from lane to lane: one order alone is as great
      is(1000000 / orders[lanes], "chance");
    }
    does("time", 7, 1, 100);
    refused(FULL, "chance");
    does("time", 3, 0, -1);
    is(1000000 / 5040, "chance");
  }

  private static void terms2_chanceAsGreatOrGreater() {
    sentence("Terms, part 2", "is as great as it is, or greater; in millionths, cut.");
    // sums of 1, 2, 3 by places 0, 1, 2: 8, 7, 7, 5, 5, 4
    int[][] orders = {{1, 2, 3}, {2, 1, 3}, {1, 3, 2}, {2, 3, 1}, {3, 1, 2}, {3, 2, 1},
        {1, 1, 2}, {1, 2, 1}, {2, 1, 1}, {2, 2, 2}, {1, 2, 2}, {2, 1, 2}};
    int[] due = {166666, 500000, 500000, 833333, 833333, 1000000,
        333333, 666666, 1000000, 1000000, 333333, 666666};
    raceOf(2, 0, row(0, 2, 100, 100), row(1, 3, 100, 100), row(2, 7, 100, 100));
    for (int i = 0; i < orders.length; i++) {
      for (int swim = 0; swim < 3; swim++) {
        does("time", swim, 0, 98 + orders[i][swim]);
      }
      is(due[i], "chance");
    }
  }

  private static void terms2_chanceOfTheLeastRise() {
    sentence("Terms, part 2", "the share by which the sum of (DIFF times the place among these LANES, from 0) is as great");
    raceOf(3, 0, row(0, 0, 100, 100, 100), row(1, 1, 100, 100, 100));
    is(1000000, "chance");
    does("time", 1, 2, 101);
    areFraction(1, 2, "lane", 1, 0);
    is(500000, "chance");
    does("time", 0, 0, 102);
    is(1000000, "chance");
    // the least that a lane's DIFF can be above 0: a half in one of 16 swims
    fresh();
    for (int race = 0; race < 16; race++) {
      raceOf(3, 0, row(0, 0, 100, 100, 100), row(1, 7, race == 0 ? 101 : 100, 100, 100));
    }
    areFraction(1, 32, "lane", 7, 0);
    is(500000, "chance");
    does("time", 30, 2, 101);
    areFraction(1, 32, "lane", 0, 0);
    is(1000000, "chance");
    does("time", 29, 1, -1);
    // of 15 swims now: 1/30 in lane 7 against 1/32
    areFraction(1, 30, "lane", 7, 0);
    is(500000, "chance");
  }

  private static void terms2_chanceByPlaces() {
    sentence("Terms, part 2", "the sum of (DIFF times the place among these LANES, from 0)");
    // DIFFS 0, 5, 1, 6 by places: 0 + 5 + 2 + 18 = 25; by lanes 0, 1, 2, 7 it would be 49. As great or greater are
    // 0 1 5 6 (29), 1 0 5 6 (28), 0 1 6 5 (28), 1 0 6 5 (27), 0 5 1 6 (25) and no other one
    raceOf(2, 0, row(0, 0, 100, 100), row(1, 1, 105, 100), row(2, 2, 101, 100), row(3, 7, 106, 100));
    is(5 * 1000000 / 24, "chance");
  }

  private static void rises(int day) {
    raceOf(2, day, row(0, 0, 100, 100), row(1, 1, 101, 100));
  }

  private static void falls(int day) {
    raceOf(2, day, row(0, 0, 101, 100), row(1, 1, 100, 100));
  }

  private static void terms2_ranOneDayAtLeast() {
    sentence("Terms, part 2", "those DAYS, one after the other (one at least), whose LEAN is greatest");
    is(0, "ran", 0);
    is(0, "ran", 1);
    for (int day = 0; day < 10; day++) {
      falls(day);
    }
    // each has -1, more of them less
    is(0, "ran", 0);
    is(0, "ran", 1);
    does("time", 18, 0, 100);
    is(9, "ran", 0);
    is(9, "ran", 1);
    for (int day = 0; day < 10; day++) {
      does("time", 2 * day, 0, 99);
    }
    is(0, "ran", 0);
    is(9, "ran", 1);
    // all fall once more: what was asked before does not matter
    for (int day = 0; day < 10; day++) {
      does("time", 2 * day, 0, 101);
    }
    is(0, "ran", 1);
    is(0, "ran", 0);
    fresh();
    rises(9);
    falls(8);
    is(9, "ran", 0);
    does("time", 0, 0, 102);
    is(0, "ran", 0);
    is(0, "ran", 1);
  }

  private static void terms2_ranOfLikeOnes() {
    sentence("Terms, part 2", "of like ones those that begin first, then those that end first.");
    rises(4);
    // 0 to 4, .. 4 to 9 all have 1
    is(0, "ran", 0);
    is(4, "ran", 1);
    falls(3);
    // from 4 alone
    is(4, "ran", 0);
    is(4, "ran", 1);
    rises(1);
    // 0 to 1 has 1 too, and begins first
    is(0, "ran", 0);
    is(1, "ran", 1);
    falls(0);
    is(1, "ran", 0);
    is(1, "ran", 1);
    rises(9);
    // 4 to 9 has 2, and so has 1 to 9 (1 - 1 + 1 + 1), which begins first
    is(1, "ran", 0);
    is(9, "ran", 1);
    falls(2);
    is(4, "ran", 0);
    is(9, "ran", 1);
  }

  private static void terms2_own() {
    sentence("Terms, part 2", "over all SWIMS of its own that have a DIFF the mean of (that DIFF less that of its LANE)");
    raceOf(2, 0, row(0, 0, 1, 9999), row(1, 1, 9999, 1), row(2, 2, 100), row(3, 3, 105, 100));
    raceOf(2, 0, row(1, 0, 9999, 1), row(0, 1, 1, 9999), row(4, 3, 100, 100));
    // alone in a lane one is its lane: 0
    does("race", 2, 0);
    does("swim", 2, 5, 6);
    refused(LONG_NOT, "own", 5, 0);
    does("time", 7, 0, 777);
    refused(LONG_NOT, "own", 5, 1);
    does("time", 7, 1, 1);
    areFraction(0, 1, "own", 5);
    areFraction(-9998, 1, "own", 0);
    areFraction(9998, 1, "own", 1);
    refused(LONG_NOT, "own", 2, 0);
    areFraction(5, 2, "own", 3);
    areFraction(-5, 2, "own", 4);
    refused(LONG_NOT, "own", 23, 0);
  }

  private static void terms2_fast() {
    sentence("Terms, part 2", "SWIMMERS whose OWN is as much below 0 as told (hundredths, 0 to 9999), or more.");
    is(0, "fast", 0);
    raceOf(2, 0, row(0, 7, 1, 9999));
    is(1, "fast", 0);
    is(0, "fast", 1);
    raceOf(2, 0, row(1, 7, 5001, 1));
    raceOf(2, 0, row(23, 7, 5002, 1));
    // DIFFS -9998, 5000, 5001 have the mean 1: just 9999 below
    areFraction(-9999, 1, "own", 0);
    is(1, "fast", 9999);
    is(1, "fast", 9998);
    does("time", 2, 0, 5001);
    // a third less
    areFraction(-29996, 3, "own", 0);
    is(0, "fast", 9999);
    is(1, "fast", 9998);
    does("time", 2, 0, 9999);
    is(1, "fast", 9999);
    does("time", 1, 0, -1);
    does("time", 0, 0, 9999);
    does("time", 0, 1, 1);
    does("time", 2, 1, 2);
    // 9998 and 9997: a half above, a half below
    is(1 << 23, "fast", 0);
    is(0, "fast", 1);
    does("time", 2, 1, 3);
    is(1 << 23, "fast", 1);
    is(0, "fast", 2);
    for (int by : new int[] {-1, 10000, LEAST, MOST}) {
      refused(BAD, "fast", by);
    }
  }

  // ---- Terms, part 3

  private static void terms3_singles() {
    sentence("Terms, part 3", "SINGLES are SWIMS of RACES of one LENGTH with a TIME.");
    raceOf(1, 0, row(0, 0), row(1, 1, 9999));
    raceOf(2, 0, row(0, 0, 5), row(1, 1, 5, 5));
    is(1, "count", 2);
    refused(LONG_NOT, "right", 0, 0);
    refused(NOT, "place", 0, 0);
    refused(LONG_NOT, "right", 2, 0);
    refused(NOT, "place", 3, 1);
    areFraction(9999, 1, "right", 1);
    is(1, "place", 1, 0);
    does("time", 0, 0, 1);
    is(2, "count", 2);
    areFraction(1, 1, "right", 0);
    does("time", 1, 0, -1);
    is(1, "count", 2);
    refused(LONG_NOT, "right", 1, 0);
  }

  private static void terms3_twice() {
    sentence("Terms, part 3", "over all pairs of SINGLES of one SWIMMER, one in LANE a, one in LANE b: in how many that "
        + "in a was quicker.");
    raceOf(1, 0, row(0, 0, 100), row(1, 7, 100));
    raceOf(1, 0, row(0, 7, 100), row(2, 0, 101));
    // like times: neither
    is(0, "twice", 0, 7);
    is(0, "twice", 7, 0);
    does("time", 2, 0, 101);
    is(1, "twice", 0, 7);
    is(0, "twice", 7, 0);
    does("time", 2, 0, 99);
    is(0, "twice", 0, 7);
    is(1, "twice", 7, 0);
    // twice in one lane is no pair by itself, but each makes one with the other lane
    raceOf(1, 0, row(0, 0, 98));
    is(1, "twice", 0, 7);
    is(1, "twice", 7, 0);
    raceOf(1, 0, row(0, 7, 9999));
    is(3, "twice", 0, 7);
    is(1, "twice", 7, 0);
    // not felt, and of two lengths
    does("time", 5, 0, -1);
    raceOf(2, 0, row(0, 7, 9999, 9999), row(1, 0, 1, 1));
    is(1, "twice", 0, 7);
    is(1, "twice", 7, 0);
    is(0, "twice", 3, 4);
  }

  private static void terms3_twiceOfMost() {
    sentence("Terms, part 3", "TWICE: over all pairs of SINGLES of one SWIMMER");
    for (int race = 0; race < 16; race++) {
      raceOf(1, 0, row(23, race % 2, race % 2 == 0 ? 1 : 9999));
    }
    is(64, "twice", 0, 1);
    is(0, "twice", 1, 0);
    is(64, "order", NONE);
    is(0, "order", 0);
  }

  private static void orderIs(int pairs, int... lanes) {
    is(pairs, "order", NONE);
    for (int i = 0; i < 8; i++) {
      is(lanes[i], "order", i);
    }
  }

  /** One swimmer was quicker in one lane than in the other. */
  private static void quicker(int swimmer, int lane, int other) {
    raceOf(1, 0, row(swimmer, lane, 100));
    raceOf(1, 0, row(swimmer, other, 101));
  }

  private static void terms3_orderOfLikeOnes() {
    sentence("Terms, part 3", "of like ones the least row. How many that are.");
    orderIs(0, 0, 1, 2, 3, 4, 5, 6, 7);
    quicker(0, 7, 0);
    orderIs(1, 1, 2, 3, 4, 5, 6, 7, 0);
    quicker(1, 0, 7);
    // one each way: the least row has the one of both
    orderIs(1, 0, 1, 2, 3, 4, 5, 6, 7);
    quicker(2, 7, 0);
    orderIs(2, 1, 2, 3, 4, 5, 6, 7, 0);
  }

  private static void terms3_orderOfARing() {
    sentence("Terms, part 3", "of all orders of the 8 LANES that by which the most of all pairs have the quicker one ahead");
    for (int lane = 0; lane < 8; lane++) {
      quicker(lane, (lane + 1) % 8, lane);
    }
    // 1 over 0, 2 over 1, .. 0 over 7: seven of eight; the least row that leaves out one begins with 0, then 7
    orderIs(7, 0, 7, 6, 5, 4, 3, 2, 1);
  }

  private static void terms3_orderOverEachBehind() {
    sentence("Terms, part 3", "(TWICE of each LANE over each behind it, together)");
    // swimmer 0 has two SINGLES in each of two lanes: four pairs; 0 over 1, 2, 3 by others: three, also where
    // another lane stands between
    quicker(0, 7, 0);
    quicker(0, 7, 0);
    is(4, "twice", 7, 0);
    quicker(1, 0, 1);
    quicker(2, 0, 2);
    quicker(3, 0, 3);
    orderIs(7, 4, 5, 6, 7, 0, 1, 2, 3);
    // 1 over 7 by one: 1 ahead of all loses 0 over 1 and has this one: as many, and the lesser row
    quicker(4, 1, 7);
    orderIs(7, 1, 4, 5, 6, 7, 0, 2, 3);
    // and by one more
    quicker(5, 1, 7);
    orderIs(8, 1, 4, 5, 6, 7, 0, 2, 3);
  }

  private static void terms3_right() {
    sentence("Terms, part 3", "more than the mean of the SHAPE's DIFFS of all LANES that have one (the TIME itself, if its LANE has none)");
    raceOf(1, 0, row(0, 0, 9999), row(1, 7, 1), row(2, 3, 500));
    areFraction(9999, 1, "right", 0);
    raceOf(2, 0, row(0, 0, 1, 9999));
    // one lane alone is the mean
    areFraction(9999, 1, "right", 0);
    areFraction(1, 1, "right", 1);
    does("swim", 1, 1, 7);
    does("time", 4, 0, 9999);
    does("time", 4, 1, 1);
    // -9998 and 9998: half of it is taken from lane 7 and given to lane 0, beyond what a TIME can be
    areFraction(14998, 1, "right", 0);
    areFraction(-4998, 1, "right", 1);
    areFraction(500, 1, "right", 2);
    does("time", 4, 0, 2);
    does("time", 3, 1, 1);
    // 0 and 1: a quarter
    areFraction(39997, 4, "right", 0);
    areFraction(3, 4, "right", 1);
    does("time", 4, 0, 1);
    does("time", 4, 1, 2);
    // 0 and -1: the SHAPE joins them
    areFraction(9999, 1, "right", 0);
    areFraction(1, 1, "right", 1);
    areFraction(500, 1, "right", 2);
  }

  private static void terms3_place() {
    sentence("Terms, part 3", "1 and how many others there are quicker, by TIME, or put RIGHT.");
    raceOf(1, 0, row(0, 0, 100));
    is(1, "place", 0, 0);
    is(1, "place", 0, 1);
    for (int i = 1; i < 8; i++) {
      does("swim", 0, i, i);
    }
    // others without a TIME are not quicker
    is(1, "place", 0, 0);
    refused(NOT, "place", 7, 0);
    for (int i = 1; i < 8; i++) {
      does("time", i, 0, 100);
    }
    for (int by = 0; by < 2; by++) {
      is(1, "place", 0, by);
      is(1, "place", 7, by);
    }
    for (int i = 0; i < 7; i++) {
      does("time", i, 0, 99);
    }
    is(8, "place", 7, 0);
    is(8, "place", 7, 1);
    is(1, "place", 6, 1);
    // other races do not matter
    raceOf(1, 0, row(0, 0, 1));
    raceOf(2, 0, row(0, 0, 1, 1));
    is(1, "place", 6, 0);
    // lane 0 is 0 and lane 7 is 4 now: 1 less for lane 7, 1 more for lane 0
    does("swim", 2, 1, 7);
    does("time", 10, 0, 104);
    does("time", 10, 1, 100);
    is(8, "place", 7, 0);
    is(1, "place", 0, 0);
    is(8, "place", 0, 1);
    is(1, "place", 7, 1);
    is(1, "place", 1, 1);
  }

  private static void terms3_medals() {
    sentence("Terms, part 3", "how many SWIMS have a PLACE up to 3 by one of both alone.");
    raceOf(1, 0, row(0, 0, 100), row(1, 1, 101), row(2, 2, 102), row(3, 3, 103), row(4, 4));
    is(0, "medals", 0);
    raceOf(2, 0, row(0, 0, 100, 100), row(3, 3, 103, 100));
    // 3 more, less the mean 3/2: lane 0 has 100 3/4, lane 3 has 102 1/4
    is(0, "medals", 0);
    // 101, 101, 102, 102: two on place 3
    does("time", 6, 0, 104);
    is(1, "medals", 0);
    // 102, 101, 102, 101: all have a PLACE up to 3
    does("time", 6, 0, 108);
    is(1, "medals", 0);
    // 103, 101, 102, 100
    does("time", 6, 0, 112);
    is(2, "medals", 0);
    // of three all have one
    does("time", 2, 0, -1);
    is(0, "medals", 0);
    refused(NOT, "medals", 1);
    raceOf(1, 0);
    is(0, "medals", 2);
  }

  private static void terms3_medalsOfAll() {
    sentence("Terms, part 3", "MEDALS that change hands in a RACE");
    raceOf(1, 0, row(0, 0, 100), row(1, 1, 100), row(2, 2, 100), row(3, 3, 200), row(4, 4, 200),
        row(5, 5, 101), row(6, 6, 101), row(7, 7, 101));
    raceOf(2, 0, row(0, 0, 100, 100), row(1, 1, 100, 100), row(2, 2, 100, 100),
        row(5, 5, 104, 100), row(6, 6, 104, 100), row(7, 7, 104, 100));
    // 101 for the first three, 100 for the last three
    is(6, "medals", 0);
    is(4, "place", 0, 1);
    is(1, "place", 7, 1);
    is(7, "place", 3, 1);
  }

  private static void terms3_medalsWithoutATime() {
    sentence("Terms, part 3", "PLACE of a SWIM in a RACE of one LENGTH");
    raceOf(1, 0, row(0, 0), row(5, 5, 1), row(6, 6, 1), row(7, 7, 1));
    raceOf(2, 0, row(0, 0, 1, 9999), row(5, 5, 9999, 1), row(6, 6, 9999, 1), row(7, 7, 9999, 1));
    // SHAPE -9998 and three times 9998, the mean 4999: 4999/2 less for three, which is below 0
    for (int swim = 1; swim <= 3; swim++) {
      areFraction(-4997, 2, "right", swim);
      is(1, "place", swim, 0);
      is(1, "place", swim, 1);
    }
    // who has no TIME has no PLACE, neither behind them nor ahead
    refused(NOT, "place", 0, 0);
    refused(NOT, "place", 0, 1);
    is(0, "medals", 0);
  }

  // ---- Terms, part 4

  private static void terms4_eightBytes() {
    sentence("Terms, part 4", "THE RULE is a text of up to 8 bytes");
    for (int n = 1; n <= 8; n++) {
      is(n, "type", 0, '0' + n - 1);
    }
    refused(FULL, "type", 0, '0');
    refused(FULL, "type", 0, 255);
    is(8, "count", 5);
    is(NONE, "fault", 0);
    is(8, "wipe", 0);
    is(1, "type", 0, 0);
  }

  private static void terms4_figures() {
    sentence("Terms, part 4", "figures 0 to 7, each once, all of them");
    String[] well = {"01234567", "76543210", "70123456", "12345670"};
    for (String text : well) {
      retyped(0, text);
      is(NONE, "fault", 0);
    }
    for (int b : new int[] {0, 7, '0' - 1, '7' + 1, '9', ' ', '-', 'a', 127, 128, 128 + '0', 255}) {
      does("wipe", 0);
      does("type", 0, b);
      is(0, "fault", 0);
    }
    for (int figure = '0'; figure <= '7'; figure++) {
      does("wipe", 0);
      does("type", 0, figure);
      is(1, "fault", 0);
      does("type", 0, figure);
      is(1, "fault", 0);
    }
    retyped(0, "01234560");
    is(7, "fault", 0);
    retyped(0, "01234566");
    is(7, "fault", 0);
    retyped(0, "01234568");
    is(7, "fault", 0);
  }

  private static void terms4_fault() {
    sentence("Terms, part 4", "the place of the first byte with which it cannot go on; of a shorter one its end "
        + "(of an empty text 0)");
    is(0, "fault", 0);
    String rule = "40516273";
    for (int n = 0; n < 8; n++) {
      is(n, "fault", 0);
      does("type", 0, rule.charAt(n));
    }
    is(NONE, "fault", 0);
    for (int place = 0; place < 8; place++) {
      does("wipe", 0);
      typed(0, rule.substring(0, place) + "x" + rule.substring(place + 1));
      is(place, "fault", 0);
      // of two the first one, also ahead of its end
      does("wipe", 0);
      typed(0, rule.substring(0, place) + "xy".substring(0, Math.min(2, 8 - place)));
      is(place, "fault", 0);
    }
    does("wipe", 0);
    is(0, "fault", 0);
  }

  private static void terms4_givenByNumbers() {
    sentence("Terms, part 4", "if its SWIMMERS, by SEEDS (of like ones by numbers), have LANES just so");
    typed(0, "53170246");
    raceOf(1, 0, row(23, 3), row(0, 5));
    is(1, "given", 0);
    // one hundredth either way
    does("seeds", 23, 2999);
    is(0, "given", 0);
    does("seeds", 0, 2999);
    is(1, "given", 0);
    does("seeds", 0, 2998);
    is(1, "given", 0);
    does("seeds", 23, 1);
    does("seeds", 0, 9999);
    is(0, "given", 0);
    retyped(0, "35170246");
    is(1, "given", 0);
  }

  private static void terms4_givenAsManyAsThereAre() {
    sentence("Terms, part 4", "(the first ones of the text, as many as there are)");
    typed(0, "76543210");
    raceOf(1, 0, row(0, 6));
    is(0, "given", 0);
    does("swim", 0, 23, 7);
    is(0, "given", 0);
    fresh();
    typed(0, "76543210");
    does("race", 1, 0);
    is(1, "given", 0);
    for (int i = 0; i < 8; i++) {
      does("swim", 0, i, 7 - i);
      is(1, "given", 0);
    }
    does("race", 1, 0);
    does("swim", 1, 0, 6);
    // the only one has the second lane
    is(0, "given", 1);
    does("swim", 1, 1, 7);
    is(0, "given", 1);
    does("seeds", 1, 1);
    is(1, "given", 1);
    is(0, "given", 0);
    retyped(0, "76543201");
    is(1, "given", 1);
  }

  // ---- Terms, part 5

  private static void terms5_endIn0() {
    sentence("Terms, part 5", "of all TIMES that were felt, of a RACE (NONE: of all RACES): how many there are, how many end in 0.");
    is(0, "tenths", NONE, 0);
    is(0, "tenths", NONE, 1);
    raceOf(4, 0, row(0, 0, 1, 9, 10, 11), row(1, 1, 9990, 9999, -1, 100));
    raceOf(1, 0, row(0, 0, 9989));
    raceOf(1, 0, row(0, 0, 9000));
    raceOf(1, 0, row(0, 0));
    is(7, "tenths", 0, 0);
    is(3, "tenths", 0, 1);
    is(1, "tenths", 1, 0);
    is(0, "tenths", 1, 1);
    is(1, "tenths", 2, 0);
    is(1, "tenths", 2, 1);
    is(0, "tenths", 3, 0);
    is(0, "tenths", 3, 1);
    is(9, "tenths", NONE, 0);
    is(4, "tenths", NONE, 1);
    refused(BAD, "tenths", 4, 0);
    refused(BAD, "tenths", -2, 0);
  }

  private static void terms5_eighteenTimes() {
    sentence("Terms, part 5", "each by itself (18 TIMES at most: FULL)");
    raceOf(4, 0, row(0, 0, 1, 1, 1, 1), row(1, 1, 1, 1, 1, 1), row(2, 2, 1, 1, 1, 1), row(3, 3, 1, 1, 1, 1),
        row(4, 4, 1, 1));
    raceOf(1, 0, row(0, 0));
    is(18, "tenths", 0, 0);
    is(1000000, "tenths", 0, 2);
    is(1000000, "tenths", NONE, 2);
    does("time", 4, 1, 10);
    // all but 0.9 to the 18th, which is 0.150094635..
    is(849905, "tenths", 0, 2);
    does("time", 4, 0, 20);
    // less 18 times 0.1 times 0.9 to the 17th too
    is(549716, "tenths", 0, 2);
    // one more in another race: FULL of all, not of each
    does("time", 5, 0, 30);
    refused(FULL, "tenths", NONE, 2);
    is(549716, "tenths", 0, 2);
    is(100000, "tenths", 1, 2);
    is(19, "tenths", NONE, 0);
    is(3, "tenths", NONE, 1);
    does("time", 4, 3, 1);
    refused(FULL, "tenths", 0, 2);
    is(19, "tenths", 0, 0);
    is(2, "tenths", 0, 1);
    does("time", 0, 0, -1);
    is(549716, "tenths", 0, 2);
  }

  private static void terms5_allEighteen() {
    sentence("Terms, part 5", "in millionths, cut (of no TIMES 1000000)");
    is(1000000, "tenths", NONE, 2);
    raceOf(4, 0, row(0, 0), row(1, 1), row(2, 2), row(3, 3), row(4, 4));
    is(1000000, "tenths", 0, 2);
    // each of 1, 2, .. 18 ends in 0
    int[] due = {100000, 10000, 1000, 100, 10, 1, 0, 0, 0, 0, 0, 0, 0, 0, 0, 0, 0, 0};
    for (int i = 0; i < 18; i++) {
      does("time", i / 4, i % 4, 9990);
      is(due[i], "tenths", 0, 2);
    }
    fresh();
    raceOf(4, 0, row(0, 0, 10, 10, 10, 10), row(1, 1, 10, 10, 11));
    // 6 or 7 of 7: 7 times 9 and 1 of 10 to the 7th
    is(6, "tenths", 0, 2);
    // 6 of 6: one of a million, not cut
    does("time", 1, 2, -1);
    is(1, "tenths", 0, 2);
    // 5 or 6 of 6
    does("time", 1, 1, 11);
    is(55, "tenths", 0, 2);
    fresh();
    raceOf(2, 0, row(0, 0, 11, 11));
    is(1000000, "tenths", 0, 2);
    does("time", 0, 1, 10);
    is(190000, "tenths", 0, 2);
    does("time", 0, 0, 10);
    is(10000, "tenths", 0, 2);
  }

  private static void terms5_asManyOrMore() {
    sentence("Terms, part 5", "that as many of so many end in 0, or more, if each does with one tenth, each by itself");
    raceOf(4, 0, row(0, 0), row(1, 1), row(2, 2), row(3, 3), row(4, 4));
    // at least one of 1, 2, .. 18: all but 0.9 to that
    int[] one = {100000, 190000, 271000, 343900, 409510, 468559, 521703, 569532, 612579, 651321, 686189, 717570, 745813,
        771232, 794108, 814697, 833228, 849905};
    does("time", 0, 0, 10);
    for (int n = 1; n <= 18; n++) {
      is(one[n - 1], "tenths", 0, 2);
      does("time", n / 4, n % 4, 11);
    }
    does("time", 4, 2, -1);
    // 1, 2, .. 18 of 18 (sums of binomials, worked out with whole numbers of any size)
    int[] of18 = {849905, 549716, 266204, 98196, 28193, 6415, 1172, 173, 20, 2, 0, 0, 0, 0, 0, 0, 0, 0};
    for (int k = 1; k <= 18; k++) {
      does("time", (k - 1) / 4, (k - 1) % 4, 9990);
      is(of18[k - 1], "tenths", 0, 2);
    }
  }

  private static void terms5_allTimesOfAFullMeet() {
    sentence("Terms, part 5", "how many there are, how many end in 0.");
    for (int race = 0; race < 8; race++) {
      does("made", 4, race, 8, 8, 0);
    }
    // SEEDS are 3000 and nothing else is more or less
    is(256, "tenths", NONE, 0);
    is(256, "tenths", NONE, 1);
    is(32, "tenths", 7, 0);
    refused(FULL, "tenths", NONE, 2);
    refused(FULL, "tenths", 7, 2);
    is(768000, "count", 7);
  }

  // ---- Terms, part 6

  private static void worldIs(int... values) {
    for (int what = 0; what < 10; what++) {
      is(values[what], "world", what);
    }
  }

  private static void noWorld() {
    worldIs(0, 0, 0, 0, 0, 0, 0, 0, 0, 0);
  }

  private static void terms6_sixtyBytes() {
    sentence("Terms, part 6", "A WORLD is a text of up to 60 bytes");
    String pushes = "p0=10;p1=11;p2=12;p3=13;p4=14;p5=15;p6=16;p7=17;";
    typed(1, pushes + "f=18;f=19");
    is(NONE, "fault", 1);
    is(58, "type", 1, ';');
    is(59, "type", 1, 'r');
    is(60, "type", 1, '=');
    is(60, "fault", 1);
    refused(FULL, "type", 1, '9');
    refused(FULL, "type", 1, 0);
    is(60, "count", 6);
    noWorld();
    // all 60 bytes are read
    retyped(1, pushes + "f=1;r=9;f=25");
    is(60, "count", 6);
    is(NONE, "fault", 1);
    worldIs(10, 11, 12, 13, 14, 15, 16, 17, 25, 9);
    refused(FULL, "type", 1, ';');
  }

  private static void terms6_pushes() {
    sentence("Terms, part 6", "p, a LANE, =, perhaps -, a number (one or two figures): PUSH of it (0 without any)");
    noWorld();
    String[] numbers = {"0", "-0", "00", "-00", "9", "-9", "09", "-09", "10", "-10", "99", "-99"};
    int[] due = {0, 0, 0, 0, 9, -9, 9, -9, 10, -10, 99, -99};
    for (int i = 0; i < numbers.length; i++) {
      int lane = i % 2 == 0 ? 0 : 7;
      retyped(1, "p" + lane + "=" + numbers[i]);
      is(NONE, "fault", 1);
      is(due[i], "world", lane);
      is(0, "world", 7 - lane);
    }
    String[] not = {"p8=1", "p/=1", "p-1=1", "p=1", "p00=1", "p0-1", "p0=--1", "p0=+1", "p0=123", "p0=-123", "p0=1-",
        "p0=/", "p0=:", "p0=-/", "p0=1:", "p0 =1", "P0=1"};
    int[] at = {1, 1, 1, 1, 2, 2, 4, 3, 5, 6, 4, 3, 3, 4, 4, 2, 0};
    for (int i = 0; i < not.length; i++) {
      retyped(1, not[i]);
      is(at[i], "fault", 1);
      is(0, "world", 0);
    }
  }

  private static void terms6_fadeAndRange() {
    sentence("Terms, part 6", "f, =, a number (one or two figures): FADE (0); r, =, a figure: RANGE (0).");
    String[] well = {"f=0", "f=9", "f=00", "f=07", "f=99", "r=0", "r=9"};
    int[] due = {0, 9, 0, 7, 99, 0, 9};
    for (int i = 0; i < well.length; i++) {
      retyped(1, well[i]);
      is(NONE, "fault", 1);
      is(i < 5 ? due[i] : 0, "world", 8);
      is(i < 5 ? 0 : due[i], "world", 9);
    }
    String[] not = {"f=-1", "f=100", "f=", "f", "f0=1", "f=:", "f=1/", "r=-1", "r=10", "r=", "r", "r0=1", "r=/", "r=:", "ff"};
    int[] at = {2, 4, 2, 1, 1, 2, 3, 2, 3, 2, 1, 1, 2, 2, 1};
    for (int i = 0; i < not.length; i++) {
      retyped(1, not[i]);
      is(at[i], "fault", 1);
      is(0, "world", 8);
      is(0, "world", 9);
    }
  }

  private static void terms6_timeOfALength() {
    sentence("Terms, part 6", "each one's TIME of LENGTH k (from 0 on): its SEEDS, k times FADE, PUSH of its LANE more OUT, less HOME");
    typed(1, "p0=-99;p1=99;f=99");
    does("seeds", 0, 5000);
    does("seeds", 1, 5000);
    int[] due = {4901, 5198, 5099, 5396, 5099, 5000, 5297, 5198};
    for (int lengths = 1; lengths <= 4; lengths++) {
      is(lengths - 1, "made", lengths, 0, 0, 2, 9);
      for (int swim = 0; swim < 2; swim++) {
        is(lengths, "about", 2 * (lengths - 1) + swim, 5);
        for (int k = 0; k < lengths; k++) {
          is(due[4 * swim + k], "time", 2 * (lengths - 1) + swim, k, due[4 * swim + k]);
        }
      }
    }
    // one FADE, then none: the fourth LENGTH is as the second
    retyped(1, "p0=-99;f=1");
    is(4, "made", 4, 0, 0, 1, 9);
    is(5102, "time", 8, 3, 1);
    retyped(1, "p0=-99");
    is(5, "made", 4, 0, 0, 1, 9);
    is(5099, "time", 9, 3, 1);
    is(4901, "time", 9, 2, 1);
  }

  private static void terms6_likeParts() {
    sentence("Terms, part 6", "Of like parts the last is so.");
    typed(1, "p3=99;p3=-1;f=99;f=1;r=9;r=1");
    worldIs(0, 0, 0, -1, 0, 0, 0, 0, 1, 1);
    typed(1, ";p3=0;f=0;r=0");
    noWorld();
    typed(1, ";p3=-9");
    worldIs(0, 0, 0, -9, 0, 0, 0, 0, 0, 0);
  }

  private static void terms6_fault() {
    sentence("Terms, part 6", "The FAULT as ever (an empty text is well).");
    is(NONE, "fault", 1);
    String world = "p7=-12;f=34;r=5;p0=6";
    // how many bytes make it well; all others lack something at their end
    String well = " 5 6 10 11 15 20 ";
    for (int n = 1; n <= world.length(); n++) {
      does("type", 1, world.charAt(n - 1));
      is(well.contains(" " + n + " ") ? NONE : n, "fault", 1);
    }
    // a sign that never may be, at each place
    for (int n = 0; n < world.length(); n += 3) {
      retyped(1, world.substring(0, n) + "x" + world.substring(n + 1));
      is(n, "fault", 1);
    }
    String[] not = {";", "f=1;", "f=1;;", ";f=1", "f=1;;f=1", "f=1,f=1", "f=1f=1", "f=11f", "r=1r"};
    int[] at = {0, 4, 4, 0, 4, 3, 3, 4, 3};
    for (int i = 0; i < not.length; i++) {
      retyped(1, not[i]);
      is(at[i], "fault", 1);
    }
    for (int b : new int[] {0, 10, 127, 128 + 'p', 255}) {
      does("wipe", 1);
      does("type", 1, b);
      is(0, "fault", 1);
    }
    does("wipe", 1);
    is(NONE, "fault", 1);
  }

  private static void terms6_withAFault() {
    sentence("Terms, part 6", "With a FAULT it is as without any part.");
    typed(1, "p0=1;p7=-2;f=3;r=4");
    worldIs(1, 0, 0, 0, 0, 0, 0, -2, 3, 4);
    // only the last sign is wrong, or lacks
    typed(1, ";");
    noWorld();
    typed(1, "r");
    noWorld();
    typed(1, "=x");
    noWorld();
    is(0, "made", 2, 0, 0, 8, 1);
    for (int swim = 0; swim < 8; swim += 7) {
      is(3000, "time", swim, 0, 1);
      is(3000, "time", swim, 1, 1);
    }
    retyped(1, "p0=1;p7=-2;f=3;r=4");
    worldIs(1, 0, 0, 0, 0, 0, 0, -2, 3, 4);
  }

  private static void terms6_madeOfOneToEight() {
    sentence("Terms, part 6", "of SWIMMERS from one on (1 to 8 of them)");
    is(0, "made", 1, 0, 23, 1, 0);
    is(1, "count", 1);
    is(1, "made", 1, 0, 16, 8, 0);
    is(9, "count", 1);
    is(2, "made", 1, 0, 0, 8, 0);
    for (int i = 0; i < 8; i++) {
      is(16 + i, "about", 1 + i, 1);
      is(i, "about", 1 + i, 2);
    }
    for (int many : new int[] {0, 9, -1, LEAST, MOST}) {
      refused(BAD, "made", 1, 0, 0, many, 0);
    }
    refused(BAD, "made", 1, 0, 17, 8, 0);
    refused(BAD, "made", 1, 0, 23, 2, 0);
    refused(BAD, "made", 1, 0, 23, 0, 0);
    refused(BAD, "made", 1, 0, 24, 1, 0);
    // numbers that would come back into what may be, if they wrapped
    refused(BAD, "made", 1, 0, MOST, 8, 0);
    refused(BAD, "made", 1, 0, LEAST, 8, 0);
    refused(BAD, "made", 1, 0, 1, MOST, 0);
    refused(BAD, "made", 1, 0, -1, 8, 0);
    refused(BAD, "made", 1, 0, 24, 0, 0);
  }

  private static void lanesAre(int first, int... lanes) {
    for (int i = 0; i < lanes.length; i++) {
      is(lanes[i], "about", first + i, 2);
    }
  }

  private static void terms6_madeByTheRule() {
    sentence("Terms, part 6", "LANES by THE RULE (GIVEN so; if THE RULE has a FAULT, SWIMMERS by their numbers have LANES 0 on)");
    does("seeds", 2, 2999);
    does("seeds", 1, 3001);
    // an empty rule has a FAULT, and so has one of seven figures
    is(0, "made", 1, 0, 0, 3, 0);
    lanesAre(0, 0, 1, 2);
    typed(0, "7654321");
    is(1, "made", 1, 0, 0, 3, 0);
    lanesAre(3, 0, 1, 2);
    typed(0, "1");
    is(2, "made", 1, 0, 0, 3, 0);
    lanesAre(6, 0, 1, 2);
    retyped(0, "76543210");
    is(3, "made", 1, 0, 0, 3, 0);
    // 2, 0, 1 by SEEDS
    lanesAre(9, 6, 5, 7);
    is(1, "given", 3);
    is(0, "given", 2);
    is(4, "made", 1, 0, 16, 8, 0);
    lanesAre(12, 7, 6, 5, 4, 3, 2, 1, 0);
    is(1, "given", 4);
    is(5, "made", 1, 0, 1, 1, 0);
    lanesAre(20, 7);
  }

  private static void madeTimeIs(int due) {
    int swim = (int) ask(pool, "count", 1);
    does("made", 1, 0, 0, 1, 0);
    is(due, "time", swim, 0, 1);
  }

  private static void terms6_madeTimesMayBe() {
    sentence("Terms, part 6", "less RANGE; at least 1, at most 9999.");
    typed(1, "p0=-99");
    int[][] low = {{101, 2}, {100, 1}, {99, 1}, {98, 1}, {1, 1}};
    for (int[] b : low) {
      does("seeds", 0, b[0]);
      madeTimeIs(b[1]);
    }
    retyped(1, "p0=99");
    int[][] high = {{9899, 9998}, {9900, 9999}, {9901, 9999}, {9902, 9999}, {9999, 9999}};
    for (int[] b : high) {
      does("seeds", 0, b[0]);
      madeTimeIs(b[1]);
    }
    // a PUSH is more OUT and less HOME; FADE comes three times to the fourth LENGTH
    retyped(1, "p0=99;f=99");
    does("seeds", 0, 1);
    does("seeds", 1, 9999);
    is(10, "made", 4, 0, 0, 2, 0);
    int[] due = {100, 1, 298, 199, 9999, 9999, 9999, 9999};
    for (int i = 0; i < 8; i++) {
      is(due[i], "time", 10 + i / 4, i % 4, 1);
    }
  }

  /** Times that were made are 3000, a LOT more, and RANGE less. */
  private static void lotsAre(int range, int seed, int... lots) {
    int first = (int) ask(pool, "count", 1);
    does("made", 2, 0, 0, 2, seed);
    for (int i = 0; i < 4; i++) {
      is(3000 + lots[i] - range, "time", first + i / 2, i % 2, 1);
    }
  }

  private static void terms6_lotsWrap() {
    sentence("Terms, part 6", "SEED becomes 1103515245 SEED and 12345, as ints that wrap; its upper 16 bits as a number "
        + "from 0 on, modulo n");
    typed(1, "r=9");
    lotsAre(9, 0, 0, 10, 6, 13);
    lotsAre(9, 1, 4, 13, 5, 9);
    lotsAre(9, -1, 0, 1, 1, 16);
    lotsAre(9, MOST, 7, 13, 13, 4);
    lotsAre(9, LEAST, 12, 17, 13, 1);
    retyped(1, "r=1");
    lotsAre(1, 0, 0, 2, 0, 0);
    lotsAre(1, -1, 1, 2, 1, 2);
    lotsAre(1, MOST, 2, 1, 0, 0);
    lotsAre(1, LEAST, 2, 0, 1, 1);
    retyped(1, "r=0");
    lotsAre(0, LEAST, 0, 0, 0, 0);
    does("wipe", 1);
    lotsAre(0, -1, 0, 0, 0, 0);
  }

  private static void terms6_partsBetween() {
    sentence("Terms, part 6", "parts with ; between them");
    // as many parts as there is room for: fifteen of four bytes lack what comes behind the last ;
    for (int part = 1; part <= 15; part++) {
      typed(1, "r=" + part % 10);
      is(NONE, "fault", 1);
      is(part % 10, "world", 9);
      is(4 * part, "type", 1, ';');
      is(4 * part, "fault", 1);
      is(0, "world", 9);
    }
    refused(FULL, "type", 1, 'r');
    // and with the 60th byte a number of two figures
    retyped(1, "r=1;".repeat(14) + "f=12");
    is(NONE, "fault", 1);
    is(12, "world", 8);
    is(1, "world", 9);
  }

  private static void terms6_leastAndMostLot() {
    sentence("Terms, part 6", "and a LOT of (2 RANGE and 1) less RANGE");
    // the first LOTS of SEEDS 0 and LEAST: upper bits 0, which is 0 of any n, and 32768, which is 2 of 3
    int[][] rows = {{0, 0, 0}, {1, 0, -1}, {9, 0, -9}, {0, LEAST, 0}, {1, LEAST, 1}};
    for (int i = 0; i < rows.length; i++) {
      retyped(1, "r=" + rows[i][0]);
      is(i, "made", 1, 0, 0, 1, rows[i][1]);
      is(3000 + rows[i][2], "about", i, 6);
    }
  }

  private static void terms6_lotsByNumbers() {
    sentence("Terms, part 6", "SWIMMER by SWIMMER by numbers, LENGTH by LENGTH.");
    // SEEDS and THE RULE turn the lanes round, not the lots
    typed(0, "76543210");
    typed(1, "r=9");
    does("seeds", 1, 2999);
    is(0, "made", 2, 0, 0, 2, 1);
    lanesAre(0, 6, 7);
    is(3000 + 4 - 9, "time", 0, 0, 1);
    is(3000 + 13 - 9, "time", 0, 1, 1);
    is(2999 + 5 - 9, "time", 1, 0, 1);
    is(2999 + 9 - 9, "time", 1, 1, 1);
    // a SEED is a race's own: the same once more
    is(1, "made", 1, 0, 0, 1, 1);
    is(3000 + 4 - 9, "time", 2, 0, 1);
  }

  // ---- Terms, refusals

  private static void refusals_badAheadOfFull() {
    sentence("Terms, refusals", "Refusals, the first that fits, in the order told at each act: BAD -2");
    for (int race = 0; race < 8; race++) {
      does("made", 4, 0, 0, 8, 0);
    }
    for (int race = 8; race < 16; race++) {
      does("race", 1, 0);
    }
    typed(0, "00000000");
    typed(1, "x".repeat(60));
    refused(FULL, "race", 1, 0);
    refused(BAD, "race", 0, 0);
    refused(BAD, "race", 5, 0);
    refused(BAD, "race", 1, -1);
    refused(BAD, "race", 1, 10);
    refused(FULL, "swim", 15, 0, 0);
    refused(BAD, "swim", 16, 0, 0);
    refused(BAD, "swim", 15, 24, 0);
    refused(BAD, "swim", 15, 0, 8);
    // taken is BAD too, and so ahead of FULL
    refused(BAD, "swim", 0, 0, 0);
    refused(FULL, "type", 0, 0);
    refused(BAD, "type", 0, 256);
    refused(BAD, "type", 1, -1);
    refused(BAD, "type", 2, 0);
    refused(FULL, "tenths", 0, 2);
    refused(BAD, "tenths", 0, 3);
    refused(BAD, "tenths", 16, 2);
    refused(FULL, "made", 1, 0, 0, 1, 0);
    refused(BAD, "made", 0, 0, 0, 1, 0);
    refused(BAD, "made", 1, 10, 0, 1, 0);
    refused(BAD, "made", 1, 0, 24, 1, 0);
    refused(BAD, "made", 1, 0, 0, 9, 0);
    refused(BAD, "made", 1, 0, 17, 8, 0);
  }

  private static void refusals_badAheadOfNot() {
    sentence("Terms, refusals", "BAD -2 (a number not as told, no such thing), NULL, NOT -3 (as told), FULL -4, other FINDINGS.");
    raceOf(2, 0, row(0, 0));
    refused(LONG_NOT, "diff", 0, 0);
    refused(LONG_BAD, "diff", 0, 2);
    refused(LONG_BAD, "diff", 0, -1);
    refused(LONG_NOT, "lane", 0, 0, 0);
    refused(LONG_BAD, "lane", 0, 3, 0);
    refused(LONG_BAD, "lane", 0, -1, 0);
    refused(LONG_BAD, "lane", 0, 0, 2);
    refused(LONG_BAD, "lane", 0, 0, -1);
    refused(LONG_NOT, "own", 0, 0);
    refused(LONG_BAD, "own", 0, 2);
    refused(LONG_BAD, "own", 0, -1);
    refused(LONG_NOT, "right", 0, 0);
    refused(LONG_BAD, "right", 0, 2);
    refused(LONG_BAD, "right", 0, -1);
    refused(NOT, "place", 0, 0);
    refused(BAD, "place", 0, 2);
    refused(BAD, "place", 0, -1);
    refused(NOT, "medals", 0);
    refused(BAD, "medals", 1);
    // THE RULE is empty: a FAULT
    refused(NOT, "given", 0);
    refused(BAD, "given", 1);
    refused(BAD, "given", -1);
  }

  private static void refusals_badAheadOfFindings() {
    sentence("Terms, refusals", "the first that fits, in the order told at each act: BAD -2 (a number not as told, no such thing), NULL");
    raceOf(1, 0, row(0, 0));
    does("sheet", 2, 2, 1);
    refused(NULL, "read", 0, 0);
    refused(BAD, "read", 0, 1);
    refused(BAD, "read", 0, -1);
    refused(BAD, "read", 4, 0);
    refused(NULL, "write", 0, 0);
    refused(BAD, "write", 1, 0);
    refused(BAD, "write", -1, 0);
    refused(BAD, "write", 0, 4);
    refused(BAD, "put", 0, 3, 0, 1);
    refused(BAD, "put", 0, -1, 0, 1);
    refused(BAD, "put", 2, 3, 1, 1);
    refusedBy(0, LEAST, "get", 0, 3, 0);
    refusedBy(0, LEAST, "get", 2, -1, 1);
    refused(BAD, "copy", 0, 0, 4, 0, 0);
    refused(BAD, "copy", 4, 0, 0, 0, 0);
    refused(BAD, "copy", 2, -1, 4, -1, -1);
    refused(BAD, "sheet", 4, 0, -1);
    refused(BAD, "sheet", 0, 3, -1);
    refused(SIZE, "sheet", 0, 0, -1);
  }

  private static void refusals_findingsAheadOfOthers() {
    sentence("Terms, refusals", "in the order told at each act");
    does("sheet", 0, 0, 2);
    does("sheet", 1, 1, 2);
    // a SHEET that was a row of ints and is LOST has no TYPE and no items
    does("sheet", 2, 2, 2);
    does("lose", 2);
    for (int i : new int[] {0, 2, -1, LEAST, MOST}) {
      for (int type = 0; type < 3; type++) {
        refused(NULL, "put", 2, type, i, 1);
        refusedBy(1, LEAST, "get", 2, type, i);
      }
      refused(CAST, "put", 0, 1, i, 1);
      refusedBy(3, LEAST, "get", 1, 0, i);
      refused(NULL, "copy", 0, i, 2, i, i);
      refused(NULL, "copy", 2, i, 1, i, i);
      refused(NULL, "copy", 2, i, 2, i, i);
      refused(STORE, "copy", 0, i, 1, 0, 0);
      refused(STORE, "copy", 1, 0, 0, i, 0);
      refused(STORE, "copy", 1, 0, 0, 0, i);
    }
    refused(INDEX, "put", 0, 0, 2, 1);
    refusedBy(2, LEAST, "get", 1, 1, 2);
    refused(INDEX, "copy", 0, 0, 0, 0, 3);
  }

  private static void refusals_changeNothing() {
    sentence("Terms, refusals", "They change nothing (FINDINGS but count() 8).");
    typed(0, "76543210");
    typed(1, "p0=9;r=3");
    does("seeds", 3, 2000);
    does("made", 2, 4, 0, 8, 77);
    raceOf(1, 5, row(9, 3, 3000), row(10, 4), row(11, 5, 10), row(12, 6, 11));
    does("sheet", 0, 0, 3);
    does("put", 0, 0, 1, 55);
    does("sheet", 1, 2, 3);
    does("put", 1, 2, 2, 5555);
    refused(BAD, "race", 5, 0);
    refused(BAD, "swim", 1, 9, 0);
    refused(BAD, "swim", 1, 0, 3);
    refused(BAD_TIME, "time", 0, 2, 5);
    refused(BAD_TIME, "time", 0, 1, 10000);
    refused(BAD, "read", 1, 12);
    refused(NULL, "read", 2, 0);
    refused(BAD, "seeds", 3, 0);
    refused(BAD, "about", 12, 0);
    refused(BAD, "about", 0, 7);
    refused(LONG_NOT, "diff", 8, 0);
    refused(FULL, "chance");
    refused(BAD, "ran", 2);
    refused(LONG_NOT, "own", 9, 0);
    refused(BAD, "fast", 10000);
    refused(BAD, "twice", 3, 3);
    refused(BAD, "order", 8);
    refused(LONG_NOT, "right", 9, 0);
    refused(NOT, "place", 9, 1);
    refused(NOT, "medals", 0);
    refused(FULL, "type", 0, '1');
    refused(BAD, "type", 1, 256);
    refused(BAD, "wipe", 2);
    refused(BAD, "fault", -1);
    refused(BAD, "given", 2);
    refused(FULL, "tenths", NONE, 2);
    refused(BAD_WORLD, "world", 10);
    refused(BAD, "made", 2, 4, 17, 8, 5);
    refused(SIZE, "sheet", 1, 0, -1);
    refused(BAD, "sheet", 1, 0, 49);
    refused(NULL, "lose", 3);
    refused(CAST, "put", 1, 0, 2, 1);
    refused(INDEX, "put", 1, 2, 3, 1);
    refusedBy(3, LEAST, "get", 0, 2, 0);
    refused(STORE, "copy", 1, 0, 0, 0, 1);
    refused(INDEX, "copy", 1, 1, 1, 0, 3);
    refused(BAD, "write", 12, 1);
    refused(NULL, "write", 0, 3);
    refused(BAD, "count", 9);
  }

  private static void refusals_asLongs() {
    sentence("Terms, refusals", "Where the answer is a long, a refusal -x is the least long and x more.");
    raceOf(1, 0, row(0, 0));
    long bad = -9223372036854775806L;
    long not = -9223372036854775805L;
    refused(bad, "diff", 1, 0);
    refused(not, "diff", 0, 0);
    refused(bad, "lane", 8, 0, 0);
    refused(not, "lane", 0, 1, 1);
    refused(bad, "own", 24, 0);
    refused(not, "own", 0, 1);
    refused(bad, "right", 1, 0);
    refused(not, "right", 0, 0);
  }

  // ---- promises 1 to 7: races, swims

  private static void promise1_newObject() {
    sentence("Promise 1", "No RACES, empty texts; all SHEETS are LOST.");
    // worked out by the words of promise 35
    is(-5785631407658274891L, "digest");
    for (int what = 0; what <= 8; what++) {
      is(0, "count", what);
    }
    refused(BAD, "swim", 0, 0, 0);
    refused(BAD_TIME, "time", 0, 0, 1);
    refused(BAD, "about", 0, 0);
    refused(BAD, "medals", 0);
    refused(BAD, "given", 0);
    refused(BAD, "tenths", 0, 0);
    is(0, "tenths", NONE, 0);
    is(0, "fault", 0);
    is(NONE, "fault", 1);
    is(0, "wipe", 0);
    is(0, "wipe", 1);
    refused(NOT, "chance");
    for (int s = 0; s < 4; s++) {
      refused(NULL, "lose", s);
    }
    // one object's state is its own
    does("race", 1, 0);
    does("type", 0, '0');
    does("sheet", 0, 0, 1);
    fresh();
    is(-5785631407658274891L, "digest");
    refused(NULL, "lose", 0);
  }

  private static void what_constants() {
    sentence("The public face", "public static final int NONE = -1, BAD = -2, NOT = -3, FULL = -4;");
    due("NONE", LaneFour.NONE, -1);
    due("BAD", LaneFour.BAD, -2);
    due("NOT", LaneFour.NOT, -3);
    due("FULL", LaneFour.FULL, -4);
  }

  private static void promise2_race() {
    sentence("Promise 2", "A RACE more: its number. BAD; FULL.");
    is(0, "race", 1, 0);
    is(1, "race", 4, 9);
    int[][] bad = {{0, 0}, {5, 0}, {1, -1}, {4, 10}, {LEAST, 0}, {MOST, 0}, {1, LEAST}, {1, MOST}, {0, 10}};
    for (int[] b : bad) {
      refused(BAD, "race", b);
    }
    for (int r = 2; r < 16; r++) {
      is(r, "race", 1, 0);
    }
    refused(FULL, "race", 1, 0);
    for (int[] b : bad) {
      refused(BAD, "race", b);
    }
  }

  private static void promise3_swim() {
    sentence("Promise 3", "A SWIM more, no TIME felt: its number. BAD: also a SWIMMER, a LANE that the RACE has; FULL.");
    does("race", 4, 3);
    does("race", 4, 3);
    is(0, "swim", 0, 0, 0);
    is(1, "swim", 1, 23, 7);
    for (int swim = 0; swim < 2; swim++) {
      is(0, "about", swim, 5);
      for (int length = 0; length < 4; length++) {
        is(-1, "time", swim, length, -1);
      }
    }
    int[][] bad = {{-1, 1, 1}, {2, 1, 1}, {0, -1, 1}, {0, 24, 1}, {0, 1, -1}, {0, 1, 8}, {0, 0, 1}, {0, 1, 0}, {0, 0, 0},
        {1, 23, 6}, {1, 22, 7}, {LEAST, 1, 1}, {MOST, 1, 1}, {0, LEAST, 1}, {0, MOST, 1}, {0, 1, LEAST}, {0, 1, MOST}};
    for (int[] b : bad) {
      refused(BAD, "swim", b);
    }
    is(2, "swim", 0, 23, 7);
    is(3, "swim", 1, 0, 0);
  }

  private static void promise4_time() {
    sentence("Promise 4", "A TIME of a SWIM (-1: not felt): what it was. BAD: -5.");
    raceOf(4, 0, row(0, 0));
    raceOf(1, 0, row(0, 0));
    is(-1, "time", 0, 3, 9999);
    is(9999, "time", 0, 3, 1);
    is(1, "time", 0, 3, -1);
    is(-1, "time", 0, 3, -1);
    is(-1, "time", 0, 0, 1);
    is(-1, "time", 1, 0, 7);
    int[][] bad = {{-1, 0, 1}, {2, 0, 1}, {0, -1, 1}, {0, 4, 1}, {1, 1, 1}, {0, 0, 0}, {0, 0, -2}, {0, 0, 10000},
        {LEAST, 0, 1}, {MOST, 0, 1}, {0, LEAST, 1}, {0, MOST, 1}, {0, 0, LEAST}, {0, 0, MOST}, {1, 4, 1}, {0, 4, -1}};
    for (int[] b : bad) {
      refused(BAD_TIME, "time", b);
    }
    is(1, "time", 0, 0, 1);
    is(7, "time", 1, 0, 7);
  }

  private static void promise5_readAsMany() {
    sentence("Promise 5", "item by item, as many as its LENGTHS at most");
    raceOf(4, 0, row(0, 0));
    raceOf(1, 0, row(0, 0));
    does("sheet", 0, 2, 48);
    for (int i = 0; i < 6; i++) {
      does("put", 0, 2, i, 100 + i);
    }
    is(4, "read", 0, 0);
    is(1, "read", 0, 1);
    for (int length = 0; length < 4; length++) {
      is(100 + length, "time", 0, length, 5);
    }
    is(100, "time", 1, 0, 5);
    // fewer items than LENGTHS: the other TIMES stay
    does("sheet", 1, 1, 1);
    does("put", 1, 1, 0, 9999);
    is(1, "read", 1, 0);
    is(9999, "time", 0, 0, 5);
    is(5, "time", 0, 1, 5);
    does("sheet", 1, 1, 0);
    is(0, "read", 1, 0);
    is(5, "time", 0, 0, 5);
    is(25, "count", 7);
  }

  private static void promise5_readWhatMayBe() {
    sentence("Promise 5", "up to the first that may not be (-1, 1 to 9999): how many.");
    raceOf(3, 0, row(0, 0, 7, 7, 7));
    does("sheet", 0, 2, 3);
    int[] may = {-1, 1, 9999};
    for (int i = 0; i < 3; i++) {
      does("put", 0, 2, i, may[i]);
    }
    is(3, "read", 0, 0);
    for (int i = 0; i < 3; i++) {
      is(may[i], "time", 0, i, 7);
    }
    for (int not : new int[] {0, -2, 10000, LEAST, MOST}) {
      for (int i = 0; i < 3; i++) {
        for (int item = 0; item < 3; item++) {
          does("put", 0, 2, item, item == i ? not : 8);
        }
        is(i, "read", 0, 0);
        for (int length = 0; length < 3; length++) {
          is(length < i ? 8 : 7, "time", 0, length, 7);
        }
      }
    }
  }

  private static void promise5_readOfTypes() {
    sentence("Promise 5", "TIMES of a SWIM from LENGTH 0 on by a SHEET");
    raceOf(2, 0, row(0, 0));
    does("sheet", 0, 0, 2);
    does("put", 0, 0, 0, 127);
    does("put", 0, 0, 1, 255);
    // a byte of 255 is -1: not felt; one of 128 is -128, which may not be
    is(2, "read", 0, 0);
    is(127, "time", 0, 0, 7);
    is(-1, "time", 0, 1, 7);
    does("put", 0, 0, 0, 128);
    is(0, "read", 0, 0);
    does("sheet", 1, 1, 2);
    does("put", 1, 1, 0, 65535);
    does("put", 1, 1, 1, 65536 + 9999);
    is(2, "read", 1, 0);
    is(-1, "time", 0, 0, 7);
    is(9999, "time", 0, 1, 7);
    does("put", 1, 1, 1, 10000);
    is(1, "read", 1, 0);
    is(7, "time", 0, 1, 7);
  }

  private static void promise5_readRefused() {
    sentence("Promise 5", "how many. BAD; NULL.");
    raceOf(1, 0, row(0, 0, 7));
    does("sheet", 1, 2, 1);
    int[][] bad = {{-1, 0}, {4, 0}, {1, -1}, {1, 1}, {0, -1}, {0, 1}, {LEAST, 0}, {MOST, 0}, {1, LEAST}, {1, MOST}};
    for (int[] b : bad) {
      refused(BAD, "read", b);
    }
    refused(NULL, "read", 0, 0);
    refused(NULL, "read", 3, 0);
    does("lose", 1);
    refused(NULL, "read", 1, 0);
    is(7, "time", 0, 0, 7);
  }

  private static void promise6_seeds() {
    sentence("Promise 6", "SEEDS of a SWIMMER: what they were. BAD.");
    is(3000, "seeds", 0, 9999);
    is(9999, "seeds", 0, 1);
    is(3000, "seeds", 23, 1);
    int[][] bad = {{-1, 1}, {24, 1}, {0, 0}, {0, 10000}, {0, -1}, {LEAST, 1}, {MOST, 1}, {0, LEAST}, {0, MOST}};
    for (int[] b : bad) {
      refused(BAD, "seeds", b);
    }
    is(1, "seeds", 0, 1);
    is(1, "seeds", 23, 2);
    is(3000, "seeds", 1, 2);
    is(3000, "seeds", 22, 2);
  }

  private static void promise7_about() {
    sentence("Promise 7", "4 LENGTHS, 5 how many TIMES were felt, 6 TOTAL (NONE: not all). BAD.");
    refused(BAD, "about", 0, 0);
    for (int race = 0; race < 15; race++) {
      does("race", 1, 0);
    }
    raceOf(4, 9, row(23, 7, 1, 2, 3));
    int[] due = {15, 23, 7, 9, 4, 3, NONE};
    for (int what = 0; what <= 6; what++) {
      is(due[what], "about", 0, what);
    }
    does("time", 0, 3, 4);
    is(4, "about", 0, 5);
    is(10, "about", 0, 6);
    leastAbout();
    int[][] bad = {{0, -1}, {0, 7}, {-1, 0}, {2, 0}, {LEAST, 0}, {MOST, 0}, {0, LEAST}, {0, MOST}};
    for (int[] b : bad) {
      refused(BAD, "about", b);
    }
  }

  /** The last swim of a test of about(): without a TIME, with the least numbers. */
  private static void leastAbout() {
    does("swim", 0, 0, 0);
    int[] due = {0, 0, 0, 0, 1, 0, NONE};
    for (int what = 0; what <= 6; what++) {
      is(due[what], "about", 1, what);
    }
  }

  // ---- promises 8 to 15: out against home

  private static void promise8_diff() {
    sentence("Promise 8", "DIFF of a SWIM: above, below. BAD; NOT.");
    raceOf(2, 0, row(0, 0, 1, 9999), row(1, 1, 9999, 1), row(2, 2, 5, 5), row(3, 3, 5));
    areFraction(-9998, 1, "diff", 0);
    areFraction(9998, 1, "diff", 1);
    areFraction(0, 1, "diff", 2);
    refused(LONG_NOT, "diff", 3, 0);
    refused(LONG_NOT, "diff", 3, 1);
    int[][] bad = {{-1, 0}, {4, 0}, {0, -1}, {0, 2}, {3, 2}, {LEAST, 0}, {MOST, 0}, {0, LEAST}, {0, MOST}};
    for (int[] b : bad) {
      refused(LONG_BAD, "diff", b);
    }
  }

  private static void promise9_lane() {
    sentence("Promise 9", "DIFF (which = 0), PUSH (1), SHAPE (2) of a LANE: above, below. BAD; NOT: COUNT is 0.");
    raceOf(2, 0, row(0, 0, 107, 100), row(1, 7, 102, 100), row(2, 3, 100));
    areFraction(7, 1, "lane", 0, 0);
    areFraction(5, 2, "lane", 0, 1);
    areFraction(9, 2, "lane", 0, 2);
    areFraction(2, 1, "lane", 7, 0);
    areFraction(-5, 2, "lane", 7, 1);
    areFraction(9, 2, "lane", 7, 2);
    for (int which = 0; which <= 2; which++) {
      refused(LONG_NOT, "lane", 3, which, 0);
      refused(LONG_NOT, "lane", 6, which, 1);
    }
    int[][] bad = {{-1, 0, 0}, {8, 0, 0}, {0, -1, 0}, {0, 3, 0}, {0, 0, -1}, {0, 0, 2}, {3, 3, 0}, {3, 0, 2}, {3, 2, -1},
        {LEAST, 0, 0}, {MOST, 0, 0}, {0, LEAST, 0}, {0, MOST, 0}, {0, 0, LEAST}, {0, 0, MOST}};
    for (int[] b : bad) {
      refused(LONG_BAD, "lane", b);
    }
  }

  private static void promise10_counts() {
    sentence("Promise 10", "COUNT of a LANE. BAD.");
    is(0, "counts", 0);
    raceOf(2, 0, row(0, 0, 107, 100), row(1, 7, 102, 100), row(2, 3, 100));
    raceOf(1, 0, row(0, 0, 107));
    raceOf(2, 0, row(0, 7, 107, 100));
    int[] due = {1, 0, 0, 0, 0, 0, 0, 2};
    for (int lane = 0; lane < 8; lane++) {
      is(due[lane], "counts", lane);
    }
    for (int lane : new int[] {-1, 8, LEAST, MOST}) {
      refused(BAD, "counts", lane);
    }
  }

  private static void promise11_lean() {
    sentence("Promise 11", "LEAN of DAYS from one to another one. BAD (the first not later): -9999.");
    rises(0);
    rises(9);
    is(1, "lean", 0, 0);
    is(1, "lean", 9, 9);
    is(2, "lean", 0, 9);
    is(0, "lean", 1, 8);
    is(0, "lean", 5, 5);
    int[][] bad = {{1, 0}, {9, 0}, {9, 8}, {5, 4}, {-1, 9}, {0, 10}, {-1, -1}, {10, 10}, {LEAST, 9}, {0, MOST}, {LEAST, MOST},
        {MOST, LEAST}, {0, LEAST}, {MOST, 0}};
    for (int[] b : bad) {
      refused(BAD_LEAN, "lean", b);
    }
  }

  private static void promise12_chance() {
    sentence("Promise 12", "CHANCE of SHAPE. NOT: fewer than two LANES have a DIFF; FULL.");
    refused(NOT, "chance");
    raceOf(2, 0, row(0, 0, 100, 100), row(1, 7, 100));
    // also if one lane was swum more than once
    raceOf(2, 0, row(0, 0, 101, 100));
    refused(NOT, "chance");
    does("time", 1, 1, 100);
    is(1000000, "chance");
    does("time", 1, 0, 101);
    is(500000, "chance");
    for (int lane = 1; lane < 6; lane++) {
      raceOf(2, 0, row(0, lane, 100, 100));
    }
    // seven lanes: 1/2, 0 five times, 1; the place of 1 is the last one. Dealt over 42 pairs of places (of 1/2, of 1):
    // p/2 and q are 6 or more together: q = 6 with any p, q = 5 with p 2, 3, 4, 6, q = 4 with p 5, 6 (p is not q), q = 3 with 6
    is(13 * 1000000L / 42, "chance");
    raceOf(2, 0, row(0, 6, 100, 100));
    refused(FULL, "chance");
  }

  private static void promise13_ran() {
    sentence("Promise 13", "RAN: the first DAY (what = 0), the last (1). BAD.");
    falls(0);
    rises(1);
    rises(2);
    falls(3);
    is(1, "ran", 0);
    is(2, "ran", 1);
    for (int what : new int[] {-1, 2, LEAST, MOST}) {
      refused(BAD, "ran", what);
    }
  }

  private static void promise14_own() {
    sentence("Promise 14", "OWN: above, below. BAD; NOT: none of its SWIMS has a DIFF.");
    raceOf(2, 0, row(0, 0, 107, 100), row(23, 7, 102), row(1, 1, -1, 100));
    raceOf(2, 0, row(2, 0, 100, 100));
    raceOf(1, 0, row(1, 0, 100));
    areFraction(7, 2, "own", 0);
    areFraction(-7, 2, "own", 2);
    for (int swimmer : new int[] {1, 3, 23}) {
      refused(LONG_NOT, "own", swimmer, 0);
      refused(LONG_NOT, "own", swimmer, 1);
    }
    does("time", 1, 1, 1);
    areFraction(0, 1, "own", 23);
    int[][] bad = {{-1, 0}, {24, 0}, {0, -1}, {0, 2}, {1, 2}, {LEAST, 0}, {MOST, 0}, {0, LEAST}, {0, MOST}};
    for (int[] b : bad) {
      refused(LONG_BAD, "own", b);
    }
  }

  private static void promise15_fast() {
    sentence("Promise 15", "FAST, as bits. BAD.");
    is(0, "fast", 0);
    // all 24 alone in a lane each time, or with like DIFFS: OWN is 0
    for (int race = 0; race < 3; race++) {
      does("made", 2, 0, 8 * race, 8, 0);
    }
    is((1 << 24) - 1, "fast", 0);
    is(0, "fast", 1);
    is(0, "fast", 9999);
    // swimmers 0, 8, 16 are in lane 0: 3 more for one of them
    does("time", 0, 0, 3003);
    is(((1 << 24) - 1) & ~1, "fast", 0);
    is(1 << 8 | 1 << 16, "fast", 1);
    is(0, "fast", 2);
    does("time", 23, 0, 2997);
    is(1 << 23, "fast", 2);
    for (int by : new int[] {-1, 10000, LEAST, MOST}) {
      refused(BAD, "fast", by);
    }
  }

  // ---- promises 16 to 20: single lengths

  private static void promise16_twice() {
    sentence("Promise 16", "TWICE: pairs in which LANE a was quicker than LANE b. BAD: also a LANE with itself.");
    quicker(0, 0, 7);
    is(1, "twice", 0, 7);
    is(0, "twice", 7, 0);
    for (int lane = 0; lane < 8; lane++) {
      refused(BAD, "twice", lane, lane);
    }
    int[][] bad = {{-1, 0}, {8, 0}, {0, -1}, {0, 8}, {LEAST, 0}, {MOST, 0}, {0, LEAST}, {0, MOST}, {-1, -1}, {8, 8}};
    for (int[] b : bad) {
      refused(BAD, "twice", b);
    }
  }

  private static void promise17_order() {
    sentence("Promise 17", "ORDER: the LANE at a place (0 to 7); how many pairs are so (place = NONE). BAD.");
    is(0, "order", NONE);
    is(0, "order", 0);
    is(7, "order", 7);
    quicker(0, 7, 6);
    quicker(1, 1, 0);
    orderIs(2, 1, 0, 2, 3, 4, 5, 7, 6);
    for (int place : new int[] {-2, 8, LEAST, MOST}) {
      refused(BAD, "order", place);
    }
  }

  private static void promise18_right() {
    sentence("Promise 18", "RIGHT: above, below. BAD; NOT: it is no SINGLE.");
    raceOf(1, 0, row(0, 0, 1), row(1, 7, 9999), row(2, 3));
    raceOf(2, 0, row(0, 0, 100, 100), row(1, 7, 101, 100));
    areFraction(5, 4, "right", 0);
    areFraction(39995, 4, "right", 1);
    for (int swim : new int[] {2, 3, 4}) {
      refused(LONG_NOT, "right", swim, 0);
      refused(LONG_NOT, "right", swim, 1);
    }
    int[][] bad = {{-1, 0}, {5, 0}, {0, -1}, {0, 2}, {2, 2}, {LEAST, 0}, {MOST, 0}, {0, LEAST}, {0, MOST}};
    for (int[] b : bad) {
      refused(LONG_BAD, "right", b);
    }
  }

  private static void promise19_place() {
    sentence("Promise 19", "PLACE by TIME (by = 0), put RIGHT (1). BAD; NOT: it is no SINGLE.");
    raceOf(1, 0, row(0, 0, 100), row(1, 7, 101), row(2, 3));
    raceOf(2, 0, row(0, 0, 100, 100), row(1, 7, 103, 100));
    // 100 3/4 and 100 1/4
    is(1, "place", 0, 0);
    is(2, "place", 1, 0);
    is(2, "place", 0, 1);
    is(1, "place", 1, 1);
    // 100 1/2 both
    does("time", 4, 0, 102);
    is(1, "place", 0, 1);
    is(1, "place", 1, 1);
    for (int swim : new int[] {2, 3, 4}) {
      refused(NOT, "place", swim, 0);
      refused(NOT, "place", swim, 1);
    }
    int[][] bad = {{-1, 0}, {5, 0}, {0, -1}, {0, 2}, {2, 2}, {LEAST, 0}, {MOST, 0}, {0, LEAST}, {0, MOST}};
    for (int[] b : bad) {
      refused(BAD, "place", b);
    }
  }

  private static void promise20_medals() {
    sentence("Promise 20", "MEDALS. BAD; NOT: more LENGTHS than one.");
    refused(BAD, "medals", 0);
    for (int lengths = 1; lengths <= 4; lengths++) {
      raceOf(lengths, 0, row(0, 0, 100));
    }
    is(0, "medals", 0);
    for (int race = 1; race < 4; race++) {
      refused(NOT, "medals", race);
    }
    for (int race : new int[] {-1, 4, LEAST, MOST}) {
      refused(BAD, "medals", race);
    }
  }

  // ---- promises 21 to 25: rules, tenths

  private static void promise21_type() {
    sentence("Promise 21", "A byte (0 to 255) comes behind a text: THE RULE 0, A WORLD 1: how many. BAD; FULL.");
    is(1, "type", 0, 0);
    is(2, "type", 0, 255);
    is(1, "type", 1, 255);
    is(2, "type", 1, 0);
    int[][] bad = {{-1, 0}, {2, 0}, {0, -1}, {0, 256}, {1, -1}, {1, 256}, {LEAST, 0}, {MOST, 0}, {0, LEAST}, {1, MOST}};
    for (int[] b : bad) {
      refused(BAD, "type", b);
    }
    for (int n = 3; n <= 8; n++) {
      is(n, "type", 0, '0');
    }
    refused(FULL, "type", 0, '0');
    for (int n = 3; n <= 60; n++) {
      is(n, "type", 1, '0');
    }
    refused(FULL, "type", 1, '0');
    for (int[] b : bad) {
      refused(BAD, "type", b);
    }
    is(8, "count", 5);
    is(60, "count", 6);
  }

  private static void promise22_wipe() {
    sentence("Promise 22", "A text is empty: how many bytes it had. BAD.");
    is(0, "wipe", 0);
    is(0, "wipe", 1);
    typed(0, "01234567");
    typed(1, "f=1;".repeat(15));
    for (int text : new int[] {-1, 2, LEAST, MOST}) {
      refused(BAD, "wipe", text);
    }
    is(8, "wipe", 0);
    is(60, "count", 6);
    is(0, "count", 5);
    is(0, "fault", 0);
    is(60, "wipe", 1);
    is(NONE, "fault", 1);
    is(0, "wipe", 0);
    is(0, "wipe", 1);
    // what was there before does not come back
    typed(1, "f=2");
    is(NONE, "fault", 1);
    is(2, "world", 8);
    typed(0, "7");
    is(1, "fault", 0);
    is(3, "wipe", 1);
    is(0, "world", 8);
  }

  private static void promise23_fault() {
    sentence("Promise 23", "The FAULT of a text; NONE. BAD.");
    is(0, "fault", 0);
    is(NONE, "fault", 1);
    typed(0, "0123456");
    typed(1, "r=");
    is(7, "fault", 0);
    is(2, "fault", 1);
    typed(0, "7");
    typed(1, "9");
    is(NONE, "fault", 0);
    is(NONE, "fault", 1);
    for (int text : new int[] {-1, 2, LEAST, MOST}) {
      refused(BAD, "fault", text);
    }
  }

  private static void promise24_given() {
    sentence("Promise 24", "Whether a RACE is GIVEN by THE RULE: 1, 0. BAD; NOT: a FAULT of it.");
    refused(BAD, "given", 0);
    raceOf(1, 0, row(0, 7), row(1, 6));
    does("race", 1, 0);
    refused(NOT, "given", 0);
    typed(0, "7654321");
    refused(NOT, "given", 0);
    refused(NOT, "given", 1);
    typed(0, "0");
    is(1, "given", 0);
    is(1, "given", 1);
    retyped(0, "67543210");
    is(0, "given", 0);
    is(1, "given", 1);
    retyped(0, "76543211");
    refused(NOT, "given", 0);
    for (int race : new int[] {-1, 2, LEAST, MOST}) {
      refused(BAD, "given", race);
    }
    // A WORLD's FAULT is not THE RULE's
    retyped(0, "76543210");
    typed(1, "x");
    is(1, "given", 0);
  }

  private static void promise25_tenths() {
    sentence("Promise 25", "TENTHS: how many TIMES (what = 0), how many end in 0 (1), CHANCE (2). BAD; FULL (2 alone).");
    for (int what = 0; what <= 2; what++) {
      is(what == 2 ? 1000000 : 0, "tenths", NONE, what);
      refused(BAD, "tenths", 0, what);
    }
    for (int race = 0; race < 16; race++) {
      raceOf(1, 0, row(0, 0, 10));
    }
    is(1, "tenths", 15, 0);
    is(1, "tenths", 15, 1);
    is(100000, "tenths", 15, 2);
    is(16, "tenths", NONE, 0);
    is(16, "tenths", NONE, 1);
    is(0, "tenths", NONE, 2);
    int[][] bad = {{-2, 0}, {16, 0}, {0, -1}, {0, 3}, {NONE, -1}, {NONE, 3}, {LEAST, 0}, {MOST, 0}, {0, LEAST}, {0, MOST}};
    for (int[] b : bad) {
      refused(BAD, "tenths", b);
    }
    does("swim", 0, 1, 1);
    does("swim", 0, 2, 2);
    does("swim", 0, 3, 3);
    does("time", 16, 0, 1);
    does("time", 17, 0, 1);
    is(0, "tenths", NONE, 2);
    does("time", 18, 0, 1);
    refused(FULL, "tenths", NONE, 2);
    is(19, "tenths", NONE, 0);
    is(16, "tenths", NONE, 1);
    // 1 of 4: all but 0.6561
    is(343900, "tenths", 0, 2);
  }

  // ---- promises 26, 27: worlds

  private static void promise26_world() {
    sentence("Promise 26", "Of A WORLD: PUSH of a LANE (0 to 7), FADE (8), RANGE (9). BAD: -5000.");
    noWorld();
    typed(1, "p0=-99;p7=99;f=99;r=9");
    worldIs(-99, 0, 0, 0, 0, 0, 0, 99, 99, 9);
    for (int what : new int[] {-1, 10, LEAST, MOST}) {
      refused(BAD_WORLD, "world", what);
    }
  }

  private static void promise27_made() {
    sentence("Promise 27", "BAD: LENGTHS, DAY, SWIMMERS 1 to 8 from first on that there are; FULL: RACES, SWIMS.");
    is(0, "made", 1, 0, 0, 1, LEAST);
    is(1, "made", 4, 9, 16, 8, MOST);
    is(9, "about", 8, 3);
    is(4, "about", 8, 4);
    is(23, "about", 8, 1);
    int[][] bad = {{0, 0, 0, 1, 0}, {5, 0, 0, 1, 0}, {1, -1, 0, 1, 0}, {1, 10, 0, 1, 0}, {1, 0, -1, 1, 0}, {1, 0, 24, 1, 0},
        {1, 0, 0, 0, 0}, {1, 0, 0, 9, 0}, {1, 0, 17, 8, 0}, {1, 0, 23, 2, 0}, {1, 0, 24, 0, 0}, {1, 0, -1, 2, 0},
        {LEAST, 0, 0, 1, 0}, {MOST, 0, 0, 1, 0}, {1, LEAST, 0, 1, 0}, {1, MOST, 0, 1, 0}, {1, 0, LEAST, 1, 0},
        {1, 0, MOST, 1, 0}, {1, 0, MOST, 8, 0}, {1, 0, 0, LEAST, 0}, {1, 0, 0, MOST, 0}, {1, 0, 2, MOST, 0}};
    for (int[] b : bad) {
      refused(BAD, "made", b);
    }
    for (int race = 2; race < 8; race++) {
      is(race, "made", 1, 0, 0, 8, 0);
    }
    // 57 SWIMS: 7 more may be
    refused(FULL, "made", 1, 0, 0, 8, 0);
    is(8, "made", 1, 0, 0, 7, 0);
    refused(FULL, "made", 1, 0, 0, 1, 0);
    refused(BAD, "made", 1, 0, 0, 0, 0);
    is(9, "race", 1, 0);
  }

  // ---- promises 28 to 33: sheets

  private static void promise28_sheet() {
    sentence("Promise 28", "A SHEET is a new row of a TYPE with n items: n. BAD: SHEET, TYPE, above 48; SIZE.");
    is(0, "sheet", 0, 0, 0);
    is(48, "sheet", 3, 2, 48);
    does("put", 3, 2, 47, 7);
    int[][] bad = {{-1, 0, 1}, {4, 0, 1}, {3, -1, 1}, {3, 3, 1}, {3, 0, 49}, {LEAST, 0, 1}, {MOST, 0, 1}, {3, LEAST, 1},
        {3, MOST, 1}, {3, 0, MOST}, {4, 0, -1}, {3, 3, -1}};
    for (int[] b : bad) {
      refused(BAD, "sheet", b);
    }
    refused(SIZE, "sheet", 3, 2, -1);
    refused(SIZE, "sheet", 3, 0, LEAST);
    // a LOST one stays LOST
    refused(SIZE, "sheet", 1, 0, -1);
    refused(NULL, "lose", 1);
    is(7, "get", 3, 2, 47);
    is(48, "sheet", 3, 2, 48);
    is(0, "get", 3, 2, 47);
    is(1, "sheet", 3, 0, 1);
    refused(CAST, "put", 3, 2, 0, 1);
    refused(INDEX, "put", 3, 0, 1, 1);
    is(1, "lose", 3);
    is(2, "sheet", 3, 1, 2);
    is(0, "get", 3, 1, 1);
  }

  private static void promise29_lose() {
    sentence("Promise 29", "It is LOST: how many items it had. BAD; NULL.");
    for (int s : new int[] {-1, 4, LEAST, MOST}) {
      refused(BAD, "lose", s);
    }
    refused(NULL, "lose", 0);
    refused(NULL, "lose", 3);
    is(0, "sheet", 0, 0, 0);
    is(48, "sheet", 3, 1, 48);
    is(0, "lose", 0);
    is(48, "lose", 3);
    refused(NULL, "lose", 0);
    refused(NULL, "lose", 3);
  }

  private static void promise30_putLowestBits() {
    sentence("Promise 30", "becomes v (the lowest bits that it has, with its sign; by write(), too): 1.");
    int[] values = {127, 128, 255, 256, -128, -129, 32767, 32768, 65535, 65536, -32768, -32769, MOST, LEAST};
    int[] bytes = {127, -128, -1, 0, -128, 127, -1, 0, -1, 0, 0, -1, -1, 0};
    int[] shorts = {127, 128, 255, 256, -128, -129, 32767, -32768, -1, 0, -32768, 32767, -1, 0};
    for (int type = 0; type < 3; type++) {
      does("sheet", type, type, 1);
      for (int i = 0; i < values.length; i++) {
        is(1, "put", type, type, 0, values[i]);
        is(type == 0 ? bytes[i] : type == 1 ? shorts[i] : values[i], "get", type, type, 0);
      }
    }
    raceOf(4, 0, row(0, 0, 127, 128, 9999));
    int[] written = {127, -128, 15, -1};
    does("sheet", 0, 0, 4);
    is(4, "write", 0, 0);
    for (int i = 0; i < 4; i++) {
      is(written[i], "get", 0, 0, i);
    }
  }

  private static void promise30_put() {
    sentence("Promise 30", "Item i, treated as of a TYPE, becomes v");
    refused(NULL, "put", 0, 0, 0, 1);
    does("sheet", 0, 0, 48);
    does("sheet", 3, 2, 1);
    is(1, "put", 0, 0, 0, 1);
    is(1, "put", 0, 0, 47, 2);
    is(1, "put", 3, 2, 0, 3);
    int[][] bad = {{-1, 0}, {4, 0}, {0, -1}, {0, 3}, {LEAST, 0}, {MOST, 0}, {0, LEAST}, {0, MOST}};
    for (int[] b : bad) {
      refused(BAD, "put", b[0], b[1], 0, 1);
    }
    for (int i : new int[] {-1, 48, LEAST, MOST}) {
      refused(INDEX, "put", 0, 0, i, 1);
    }
    refused(INDEX, "put", 3, 2, 1, 1);
    refused(CAST, "put", 0, 1, 0, 1);
    refused(CAST, "put", 0, 2, 0, 1);
    refused(CAST, "put", 3, 1, 0, 1);
    refused(CAST, "put", 3, 0, 0, 1);
    is(1, "get", 0, 0, 0);
    is(0, "get", 0, 0, 1);
    is(2, "get", 0, 0, 47);
  }

  private static void promise30_putRefused() {
    sentence("Promise 30", "by write(), too): 1. BAD; NULL; CAST; INDEX.");
    does("sheet", 1, 1, 3);
    // all four fit, but for what was mended one by one
    refused(BAD, "put", 0, 3, -1, 1);
    refused(NULL, "put", 0, 2, -1, 1);
    refused(CAST, "put", 1, 2, -1, 1);
    refused(INDEX, "put", 1, 1, -1, 1);
    is(1, "put", 1, 1, 0, 1);
    refused(BAD, "put", 4, 2, 3, 1);
    refused(CAST, "put", 1, 0, 3, 1);
    refused(INDEX, "put", 1, 1, 3, 1);
    is(1, "put", 1, 1, 2, 1);
  }

  private static void promise31_get() {
    sentence("Promise 31", "Item i of it. BAD: the least int; so are NULL, CAST, INDEX (count() 8 tells).");
    for (int s = 0; s < 4; s++) {
      refusedBy(1, LEAST, "get", s, s % 3, 0);
    }
    fresh();
    does("sheet", 0, 0, 48);
    does("sheet", 3, 2, 1);
    does("put", 3, 2, 0, LEAST);
    does("put", 0, 0, 47, -1);
    // just the same answer, but no FINDING
    is(LEAST, "get", 3, 2, 0);
    is(0, "count", 8);
    is(-1, "get", 0, 0, 47);
    is(0, "get", 0, 0, 46);
    int[][] bad = {{-1, 0}, {4, 0}, {0, -1}, {0, 3}, {1, 3}, {LEAST, 0}, {MOST, 0}, {0, LEAST}, {0, MOST}};
    for (int[] b : bad) {
      refusedBy(0, LEAST, "get", b[0], b[1], 0);
    }
    for (int i : new int[] {-1, 48, LEAST, MOST}) {
      refusedBy(2, LEAST, "get", 0, 0, i);
    }
    refusedBy(2, LEAST, "get", 3, 2, 1);
    refusedBy(3, LEAST, "get", 0, 1, 0);
    refusedBy(3, LEAST, "get", 3, 1, 0);
    refusedBy(3, LEAST, "get", 3, 0, 5);
    refusedBy(1, LEAST, "get", 1, 0, 0);
  }

  /** Sheet s of ints has these items and no other ones. */
  private static void itemsAre(int s, int... items) {
    for (int i = 0; i < items.length; i++) {
      is(items[i], "get", s, 2, i);
    }
  }

  private static void filled(int s, int... items) {
    does("sheet", s, 2, items.length);
    for (int i = 0; i < items.length; i++) {
      does("put", s, 2, i, items[i]);
    }
  }

  private static void promise32_copyAsTheyWere() {
    sentence("Promise 32", "come to SHEET t (perhaps s, as they were), from j on: 1.");
    filled(0, 1, 2, 3, 4, 5);
    is(1, "copy", 0, 0, 0, 1, 4);
    itemsAre(0, 1, 1, 2, 3, 4);
    filled(0, 1, 2, 3, 4, 5);
    is(1, "copy", 0, 1, 0, 0, 4);
    itemsAre(0, 2, 3, 4, 5, 5);
    is(1, "copy", 0, 0, 0, 0, 5);
    itemsAre(0, 2, 3, 4, 5, 5);
    filled(3, 7, 8);
    is(1, "copy", 3, 0, 0, 3, 2);
    itemsAre(0, 2, 3, 4, 7, 8);
    is(1, "copy", 0, 2, 3, 1, 1);
    itemsAre(3, 7, 4);
    // a copy has nothing to do with the other SHEET afterwards
    does("put", 0, 2, 2, 99);
    itemsAre(3, 7, 4);
  }

  private static void promise32_copyOfTypes() {
    sentence("Promise 32", "n items of SHEET s, from i on, come to SHEET t");
    for (int type = 0; type < 2; type++) {
      does("sheet", 0, type, 48);
      does("sheet", 1, type, 48);
      does("put", 0, type, 0, -5);
      does("put", 0, type, 47, 6);
      is(1, "copy", 0, 0, 1, 0, 48);
      is(-5, "get", 1, type, 0);
      is(6, "get", 1, type, 47);
      is(1, "copy", 0, 47, 1, 0, 1);
      is(6, "get", 1, type, 0);
      is(0, "get", 1, type, 1);
      refused(INDEX, "copy", 0, 0, 1, 0, 49);
    }
  }

  private static void promise32_copyIndex() {
    sentence("Promise 32", "INDEX: i, j or n below 0, not so many there (of n 0, too: i or j above the size).");
    filled(0, 1, 2, 3, 4, 5);
    filled(1, 7, 8, 9);
    int[][] well = {{0, 0, 0}, {5, 3, 0}, {5, 0, 0}, {0, 3, 0}};
    for (int[] w : well) {
      is(1, "copy", 0, w[0], 1, w[1], w[2]);
    }
    itemsAre(1, 7, 8, 9);
    int[][] not = {{6, 0, 0}, {0, 4, 0}, {-1, 0, 0}, {0, -1, 0}, {0, 0, -1}, {-1, 0, 1}, {0, -1, 1}, {3, 0, 3}, {5, 0, 1},
        {0, 1, 3}, {0, 3, 1}, {0, 0, 4}, {MOST, 0, 1}, {0, MOST, 1}, {0, 0, MOST}, {1, 0, MOST}, {0, 1, MOST}, {MOST, MOST, MOST},
        {MOST, 0, MOST}, {LEAST, 0, 0}, {0, LEAST, 0}, {0, 0, LEAST}, {LEAST, LEAST, LEAST}, {5, 3, LEAST}};
    for (int[] b : not) {
      refused(INDEX, "copy", 0, b[0], 1, b[1], b[2]);
    }
    // 3 from either end
    is(1, "copy", 0, 2, 1, 0, 3);
    itemsAre(1, 3, 4, 5);
    does("sheet", 2, 2, 0);
    is(1, "copy", 2, 0, 2, 0, 0);
    is(1, "copy", 2, 0, 1, 3, 0);
    refused(INDEX, "copy", 2, 0, 1, 0, 1);
    refused(INDEX, "copy", 1, 0, 2, 0, 1);
    refused(INDEX, "copy", 2, 1, 2, 0, 0);
  }

  private static void promise32_copyRefused() {
    sentence("Promise 32", "BAD: the SHEETS; NULL: s, t; STORE; INDEX");
    filled(0, 1);
    does("sheet", 1, 1, 1);
    does("sheet", 2, 0, 0);
    for (int s : new int[] {-1, 4, LEAST, MOST}) {
      refused(BAD, "copy", s, 0, 0, 0, 0);
      refused(BAD, "copy", 0, 0, s, 0, 0);
      refused(BAD, "copy", 3, 0, s, 0, 0);
      refused(BAD, "copy", s, 0, 3, 0, 0);
    }
    refused(NULL, "copy", 3, 0, 0, 0, 1);
    refused(NULL, "copy", 0, 0, 3, 0, 1);
    refused(NULL, "copy", 3, 0, 3, 0, 0);
    refused(STORE, "copy", 0, 0, 1, 0, 1);
    refused(STORE, "copy", 1, 0, 0, 0, 1);
    // of no items, too
    refused(STORE, "copy", 2, 0, 1, 0, 0);
    refused(STORE, "copy", 0, 1, 2, 0, 0);
  }

  private static void promise33_write() {
    sentence("Promise 33", "come to a SHEET from item 0 on, as many as there are items and LENGTHS: how many. BAD; NULL.");
    raceOf(4, 0, row(0, 0, 1, -1, 9999, 4));
    raceOf(1, 0, row(0, 0));
    refused(NULL, "write", 0, 0);
    refused(NULL, "write", 0, 3);
    filled(0, 7, 7, 7, 7, 7);
    is(4, "write", 0, 0);
    itemsAre(0, 1, -1, 9999, 4, 7);
    is(1, "write", 1, 0);
    itemsAre(0, -1, -1, 9999, 4, 7);
    filled(3, 7, 7, 7);
    is(3, "write", 0, 3);
    itemsAre(3, 1, -1, 9999);
    does("sheet", 1, 2, 0);
    is(0, "write", 0, 1);
    does("sheet", 1, 1, 4);
    is(4, "write", 0, 1);
    is(9999, "get", 1, 1, 2);
    is(-1, "get", 1, 1, 1);
    int[][] bad = {{-1, 0}, {2, 0}, {0, -1}, {0, 4}, {2, 2}, {LEAST, 0}, {MOST, 0}, {0, LEAST}, {0, MOST}};
    for (int[] b : bad) {
      refused(BAD, "write", b);
    }
    refused(NULL, "write", 1, 2);
  }

  // ---- promises 34, 35

  private static void promise34_count() {
    sentence("Promise 34", "7 all TIMES together, 8 the number of the latest FINDING (0 before any). BAD.");
    for (int what = 0; what <= 8; what++) {
      is(0, "count", what);
    }
    raceOf(1, 0, row(0, 0, 9999), row(1, 1));
    raceOf(2, 0, row(0, 0, 1, 1), row(1, 1, 5));
    does("race", 4, 0);
    typed(0, "9");
    typed(1, "xy");
    int[] due = {3, 4, 1, 1, 4, 1, 2, 10006, 0};
    for (int what = 0; what <= 8; what++) {
      is(due[what], "count", what);
    }
    for (int what : new int[] {-1, 9, LEAST, MOST}) {
      refused(BAD, "count", what);
    }
    is(NULL, "lose", 0);
    is(1, "count", 8);
    for (int what : new int[] {-1, 9, LEAST, MOST}) {
      refused(BAD, "count", what);
    }
    // well answered calls and other refusals leave it
    does("sheet", 0, 0, 1);
    is(BAD, "race", 0, 0);
    is(NOT, "given", 0);
    is(1, "count", 8);
  }

  private static void promise34_countOfMost() {
    sentence("Promise 34", "0 RACES, 1 SWIMS, 2 SINGLES, 3 SWIMS that have a DIFF, 4 TIMES that were felt, 5, 6 bytes of texts");
    typed(1, "p0=99");
    for (int swimmer = 0; swimmer < 8; swimmer++) {
      does("seeds", swimmer, 9999);
    }
    for (int race = 0; race < 8; race++) {
      does("made", 4, 0, 0, 8, 0);
    }
    // 64 SWIMS of four: all are 9999 but those HOME in lane 0
    int[] due = {8, 64, 0, 64, 256, 0, 5, 256 * 9999 - 16 * 99, 0};
    for (int what = 0; what <= 8; what++) {
      is(due[what], "count", what);
    }
    fresh();
    for (int race = 0; race < 16; race++) {
      does("made", 1, 0, 0, 4, 0);
    }
    int[] singles = {16, 64, 64, 0, 64, 0, 0, 192000, 0};
    for (int what = 0; what <= 8; what++) {
      is(singles[what], "count", what);
    }
  }

  /** The digest by the words of the document, by what a twin of the object answers. */
  private static long digestByWords() {
    Pool twin = twin(5);
    long h = 17;
    for (int what = 0; what <= 7; what++) {
      h = 31 * h + ask(twin, "count", what);
    }
    for (int lane = 0; lane < 8; lane++) {
      h = 31 * h + ask(twin, "counts", lane);
      for (int which = 0; which <= 2; which++) {
        h = 31 * h + ask(twin, "lane", lane, which, 0);
        h = 31 * h + ask(twin, "lane", lane, which, 1);
      }
    }
    h = 31 * h + ask(twin, "lean", 0, 9);
    h = 31 * h + ask(twin, "chance");
    h = 31 * h + ask(twin, "ran", 0);
    h = 31 * h + ask(twin, "ran", 1);
    for (int place = NONE; place < 8; place++) {
      h = 31 * h + ask(twin, "order", place);
    }
    h = 31 * h + ask(twin, "fault", 0);
    h = 31 * h + ask(twin, "fault", 1);
    long races = Math.min(16, ask(twin, "count", 0));
    for (int race = 0; race < races; race++) {
      h = 31 * h + ask(twin, "tenths", race, 0);
      h = 31 * h + ask(twin, "tenths", race, 1);
      h = 31 * h + ask(twin, "given", race);
      h = 31 * h + ask(twin, "medals", race);
    }
    h = withTimes(h, twin);
    for (int what = 0; what <= 9; what++) {
      h = 31 * h + ask(twin, "world", what);
    }
    return h;
  }

  private static long withTimes(long start, Pool twin) {
    long h = start;
    long swims = Math.min(64, ask(twin, "count", 1));
    for (int swim = 0; swim < swims; swim++) {
      long lengths = Math.min(4, ask(twin, "about", swim, 4));
      for (int length = 0; length < lengths; length++) {
        long was = ask(twin, "time", swim, length, -1);
        h = 31 * h + was;
      }
    }
    return h;
  }

  private static void digestIsByWords() {
    due("digest()", ask(pool, "digest"), digestByWords());
  }

  private static void promise35_digestOfFew() {
    sentence("Promise 35", "h is 17; h becomes 31 h and each of (of each thing all that is told of it, then of the next one)");
    is(-5785631407658274891L, "digest");
    raceOf(1, 0, row(5, 7, 9999));
    is(-8271553817288559387L, "digest");
    fresh();
    raceOf(2, 9, row(0, 0, 100, 100), row(1, 1, -1, 101));
    typed(0, "01234567");
    typed(1, "r=9");
    is(-6402881142889057005L, "digest");
    digestIsByWords();
  }

  private static void promise35_digestAsTold() {
    sentence("Promise 35", "of RACES tenths() 0, 1, given() and medals() (as they are told)");
    // chance() is FULL, given() NOT, medals() NOT of the second race
    does("made", 1, 0, 0, 8, 0);
    does("made", 2, 9, 0, 8, 0);
    is(FULL, "chance");
    is(NOT, "given", 0);
    is(NOT, "medals", 1);
    digestIsByWords();
    typed(0, "01234567");
    typed(1, "p7=-99;f=9;r=9");
    does("made", 2, 3, 16, 8, LEAST);
    does("race", 4, 0);
    does("swim", 3, 23, 7);
    does("time", 17, 1, 9999);
    digestIsByWords();
    // of sheets, FINDINGS and SEEDS that matter to no RACE it tells nothing
    long before = ask(pool, "digest");
    does("sheet", 0, 0, 48);
    does("put", 0, 0, 0, 5);
    is(NULL, "lose", 1);
    does("seeds", 15, 1);
    is(before, "digest");
  }

  private static void promise35_digestOfLanes() {
    sentence("Promise 35", "of LANES counts(), lane() 0 to 2, above and below each (as it is told)");
    digestIsByWords();
    // lane after lane has a DIFF, from the last one on, so that SHAPE joins them
    int race = raceOf(2, 0);
    for (int i = 0; i < 8; i++) {
      does("swim", race, i, 7 - i);
      does("time", i, 0, 101 + i % 3);
      does("time", i, 1, 100);
      digestIsByWords();
    }
  }

  private static void promise35_digestOfAllDays() {
    sentence("Promise 35", "lean(0, 9); chance() (as it is told); ran() 0, 1; order() NONE, 0 to 7; fault() of texts");
    rises(0);
    digestIsByWords();
    rises(9);
    digestIsByWords();
    falls(0);
    falls(0);
    digestIsByWords();
    quicker(3, 7, 0);
    quicker(4, 6, 1);
    typed(0, "01");
    typed(1, "p0");
    digestIsByWords();
  }

  private static void promise35_digestOfAFullMeet() {
    sentence("Promise 35", "of SWIMS time by time as they are; world() 0 to 9; as longs that wrap.");
    typed(0, "43526170");
    typed(1, "p0=-9;p1=-8;p6=20;p7=19;f=3;r=9");
    for (int race = 0; race < 16; race++) {
      does("made", race % 2 + 1, race % 10, race % 20, 4, 1000 * race);
    }
    is(64, "count", 1);
    digestIsByWords();
  }
}
