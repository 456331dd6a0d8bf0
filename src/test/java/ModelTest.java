import java.math.BigInteger;
import java.util.ArrayList;
import java.util.List;
import java.util.Random;
import java.util.regex.Matcher;
import java.util.regex.Pattern;

/**
 * Runs of calls by lots, on a LaneFour and on a slow model beside it that is written from the
 * document's words in another way (fractions of big numbers, all orders one by one, texts by
 * regular expressions). Prints every run that comes apart; exit code 1 if there was one.
 */
public final class ModelTest {
  private static final String[] NAMES = {
    "race", "swim", "time", "read", "seeds", "about", "diff", "lane", "counts", "lean", "chance",
    "ran", "own", "fast", "twice", "order", "right", "place", "medals", "type", "wipe", "fault",
    "given", "tenths", "world", "made", "sheet", "lose", "put", "get", "copy", "write", "count",
    "digest"};
  private static final int[] ARGUMENTS = {
    2, 3, 3, 2, 2, 2, 2, 3, 1, 2, 0,
    1, 2, 1, 2, 1, 2, 2, 1, 2, 1, 1,
    1, 2, 1, 5, 3, 1, 4, 3, 5, 2, 1,
    0};

  public static void main(String[] args) {
    int runs = args.length > 0 ? Integer.parseInt(args[0]) : 160;
    int wrong = 0;
    for (int run = 0; run < runs; run++) {
      if (!sameAnswers(run)) {
        wrong++;
      }
    }
    System.out.println(wrong == 0
        ? runs + " runs by lots are as the model says" : wrong + " runs are not as the model says");
    if (wrong != 0) {
      System.exit(1);
    }
  }

  private static boolean sameAnswers(int run) {
    Random lots = new Random(run);
    Caller caller = new Caller(lots, run % 8);
    LaneFour real = new LaneFour();
    Model model = new Model();
    // two more calls come at the end: 512 are promised
    for (int call = 0; call < 510; call++) {
      int op = caller.pick(call);
      int[] a = caller.arguments(op, model);
      long want = ofModel(model, op, a);
      long got = ofReal(real, op, a);
      if (got != want) {
        System.out.println("run " + run + ", call " + call + ": " + told(op, a) + " answered " + got
            + ", the model says " + want);
        return false;
      }
    }
    model.forget();
    if (real.digest() != model.digest() || real.count(8) != model.count(8)) {
      System.out.println("run " + run + ": the digests at its end are unlike");
      return false;
    }
    return true;
  }

  private static String told(int op, int[] a) {
    StringBuilder text = new StringBuilder(NAMES[op]).append('(');
    for (int i = 0; i < ARGUMENTS[op]; i++) {
      text.append(i == 0 ? "" : ", ").append(a[i]);
    }
    return text.append(')').toString();
  }

  /** Picks calls and arguments: mostly such as may be, sometimes edges, sometimes anything. */
  private static final class Caller {
    private static final int[] ODD = {
      -1, -2, 0, 1, 4, 7, 8, 9, 10, 16, 23, 24, 48, 49, 63, 64, 255, 256, 9999, 10000,
      Integer.MAX_VALUE, Integer.MIN_VALUE};
    private final Random lots;
    private final int kind;
    private final StringBuilder waiting = new StringBuilder();
    private int waitingText = 0;

    Caller(Random lots, int kind) {
      this.lots = lots;
      this.kind = kind;
    }

    int pick(int call) {
      if (waiting.length() > 0) {
        return 19;
      }
      if (lots.nextInt(24) == 0) {
        waitingText = lots.nextInt(2);
        waiting.append(waitingText == 0 ? someRule() : someWorld());
        return 20;
      }
      int building = kind < 4 ? 3 : 6;
      int die = lots.nextInt(10);
      if (die < building) {
        int[] acts = kind % 2 == 0
            ? new int[] {0, 1, 1, 1, 2, 2, 2, 2, 2, 2, 4, 25} : new int[] {25, 25, 2, 2, 2, 2, 4, 4, 1};
        return acts[lots.nextInt(acts.length)];
      }
      if (lots.nextInt(60) == 0) {
        return 33;
      }
      int op = lots.nextInt(33);
      return op == 15 && lots.nextInt(6) != 0 ? 14 : op;
    }

    private String someRule() {
      StringBuilder text = new StringBuilder("01234567");
      for (int i = 7; i > 0; i--) {
        int j = lots.nextInt(i + 1);
        char kept = text.charAt(i);
        text.setCharAt(i, text.charAt(j));
        text.setCharAt(j, kept);
      }
      if (lots.nextInt(5) == 0) {
        text.setCharAt(lots.nextInt(8), (char) ('/' + lots.nextInt(10)));
      }
      text.setLength(lots.nextInt(6) == 0 ? lots.nextInt(8) : 8);
      return text.toString();
    }

    private String someWorld() {
      StringBuilder text = new StringBuilder();
      int parts = 1 + lots.nextInt(lots.nextInt(6) == 0 ? 12 : 5);
      for (int i = 0; i < parts; i++) {
        text.append(i == 0 ? "" : ";");
        int die = lots.nextInt(8);
        String figures = lots.nextBoolean() ? "" + lots.nextInt(10) : "" + lots.nextInt(10) + lots.nextInt(10);
        if (die == 0) {
          text.append("r=").append(lots.nextInt(10));
        } else if (die < 3) {
          text.append("f=").append(figures);
        } else {
          text.append('p').append(lots.nextInt(8)).append(lots.nextBoolean() ? "=" : "=-").append(figures);
        }
      }
      if (lots.nextInt(4) == 0) {
        text.setCharAt(lots.nextInt(text.length()), "0789pfr=-;:/ ".charAt(lots.nextInt(13)));
      }
      if (lots.nextInt(8) == 0) {
        text.append("0789pfr=-;:/ ".charAt(lots.nextInt(13)));
      }
      return text.toString();
    }

    private int typeOfSheet(Model model, int s) {
      Object sheet = model.sheets[s];
      return sheet == null || lots.nextInt(6) == 0 ? lots.nextInt(3) : model.typeOf(sheet);
    }

    int[] arguments(int op, Model model) {
      int[] a = new int[5];
      String name = NAMES[op];
      int races = Math.max(1, model.races.size());
      int swims = Math.max(1, model.swims.size());
      if (name.equals("type") && waiting.length() > 0) {
        a[0] = waitingText;
        a[1] = waiting.charAt(0);
        waiting.deleteCharAt(0);
        return a;
      }
      if (name.equals("wipe") && waiting.length() > 0) {
        a[0] = waitingText;
        return a;
      }
      int lengths = kind % 4 == 0 ? 1 + lots.nextInt(4) : kind % 4 == 1 ? 1 + lots.nextInt(2)
          : kind % 4 == 2 ? 2 + lots.nextInt(3) : 1;
      switch (name) {
        case "race": set(a, lengths, lots.nextInt(10)); break;
        case "swim": set(a, lots.nextInt(races), lots.nextInt(kind < 4 ? 8 : 24), lots.nextInt(kind == 6 ? 6 : 8)); break;
        case "time": set(a, lots.nextInt(swims), lots.nextInt(kind % 4 == 3 ? 1 : 4), someTime()); break;
        case "read": set(a, lots.nextInt(4), lots.nextInt(swims)); break;
        case "seeds": set(a, lots.nextInt(24), lots.nextInt(3) == 0 ? 1 + lots.nextInt(9999) : 2999 + lots.nextInt(3)); break;
        case "about": set(a, lots.nextInt(swims), lots.nextInt(7)); break;
        case "diff": case "right": case "place": set(a, lots.nextInt(swims), lots.nextInt(2)); break;
        case "lane": set(a, lots.nextInt(8), lots.nextInt(3), lots.nextInt(2)); break;
        case "lean": set(a, lots.nextInt(10), lots.nextInt(10)); break;
        case "own": set(a, lots.nextInt(24), lots.nextInt(2)); break;
        case "fast": set(a, lots.nextInt(4) == 0 ? 0 : lots.nextInt(30)); break;
        case "twice": set(a, lots.nextInt(8), lots.nextInt(8)); break;
        case "order": set(a, lots.nextInt(9) - 1); break;
        case "medals": case "given": set(a, lots.nextInt(races)); break;
        case "type": set(a, lots.nextInt(2), "01234567p=-;fr".charAt(lots.nextInt(14))); break;
        case "tenths": set(a, lots.nextInt(races + 1) - 1, lots.nextInt(3)); break;
        case "made": set(a, lengths, lots.nextInt(10), lots.nextInt(24), 1 + lots.nextInt(8), lots.nextInt()); break;
        case "sheet":
          // ints come more often than the others, so that two sheets have like types now and then
          set(a, lots.nextInt(4), Math.min(2, lots.nextInt(5)), lots.nextInt(5) == 0 ? lots.nextInt(52) - 2 : lots.nextInt(6));
          break;
        case "put":
          set(a, lots.nextInt(4), 0, lots.nextInt(6), lots.nextInt(3) == 0 ? lots.nextInt() : someTime());
          a[1] = typeOfSheet(model, a[0]);
          break;
        case "get":
          set(a, lots.nextInt(4), 0, lots.nextInt(6));
          a[1] = typeOfSheet(model, a[0]);
          break;
        case "counts": set(a, lots.nextInt(8)); break;
        case "ran": case "wipe": case "fault": set(a, lots.nextInt(2)); break;
        case "lose": set(a, lots.nextInt(3) == 0 ? lots.nextInt(4) : 4); break;
        case "count": set(a, lots.nextInt(9)); break;
        case "copy": set(a, lots.nextInt(4), lots.nextInt(5), lots.nextInt(4), lots.nextInt(5), lots.nextInt(5)); break;
        case "write": set(a, lots.nextInt(swims), lots.nextInt(4)); break;
        default: set(a, lots.nextInt(10));
      }
      if (lots.nextInt(25) == 0) {
        a[lots.nextInt(Math.max(1, ARGUMENTS[op]))] = ODD[lots.nextInt(ODD.length)];
      }
      return a;
    }

    private int someTime() {
      int die = lots.nextInt(12);
      if (die == 0) {
        return -1;
      }
      if (die == 1) {
        return lots.nextInt(10001);
      }
      return die < 7 ? 2990 + lots.nextInt(21) : 3000 + lots.nextInt(4);
    }

    private static void set(int[] a, int... values) {
      System.arraycopy(values, 0, a, 0, values.length);
    }
  }

  private static long ofReal(LaneFour x, int op, int[] a) {
    switch (NAMES[op]) {
      case "race": return x.race(a[0], a[1]);
      case "swim": return x.swim(a[0], a[1], a[2]);
      case "time": return x.time(a[0], a[1], a[2]);
      case "read": return x.read(a[0], a[1]);
      case "seeds": return x.seeds(a[0], a[1]);
      case "about": return x.about(a[0], a[1]);
      case "diff": return x.diff(a[0], a[1]);
      case "lane": return x.lane(a[0], a[1], a[2]);
      case "counts": return x.counts(a[0]);
      case "lean": return x.lean(a[0], a[1]);
      case "chance": return x.chance();
      case "ran": return x.ran(a[0]);
      case "own": return x.own(a[0], a[1]);
      case "fast": return x.fast(a[0]);
      case "twice": return x.twice(a[0], a[1]);
      case "order": return x.order(a[0]);
      case "right": return x.right(a[0], a[1]);
      case "place": return x.place(a[0], a[1]);
      case "medals": return x.medals(a[0]);
      case "type": return x.type(a[0], a[1]);
      case "wipe": return x.wipe(a[0]);
      case "fault": return x.fault(a[0]);
      case "given": return x.given(a[0]);
      case "tenths": return x.tenths(a[0], a[1]);
      case "world": return x.world(a[0]);
      case "made": return x.made(a[0], a[1], a[2], a[3], a[4]);
      case "sheet": return x.sheet(a[0], a[1], a[2]);
      case "lose": return x.lose(a[0]);
      case "put": return x.put(a[0], a[1], a[2], a[3]);
      case "get": return x.get(a[0], a[1], a[2]);
      case "copy": return x.copy(a[0], a[1], a[2], a[3], a[4]);
      case "write": return x.write(a[0], a[1]);
      case "count": return x.count(a[0]);
      default: return x.digest();
    }
  }

  private static long ofModel(Model x, int op, int[] a) {
    x.forget();
    switch (NAMES[op]) {
      case "race": return x.race(a[0], a[1]);
      case "swim": return x.swim(a[0], a[1], a[2]);
      case "time": return x.time(a[0], a[1], a[2]);
      case "read": return x.read(a[0], a[1]);
      case "seeds": return x.seeds(a[0], a[1]);
      case "about": return x.about(a[0], a[1]);
      case "diff": return x.diff(a[0], a[1]);
      case "lane": return x.lane(a[0], a[1], a[2]);
      case "counts": return x.counts(a[0]);
      case "lean": return x.lean(a[0], a[1]);
      case "chance": return x.chance();
      case "ran": return x.ran(a[0]);
      case "own": return x.own(a[0], a[1]);
      case "fast": return x.fast(a[0]);
      case "twice": return x.twice(a[0], a[1]);
      case "order": return x.order(a[0]);
      case "right": return x.right(a[0], a[1]);
      case "place": return x.place(a[0], a[1]);
      case "medals": return x.medals(a[0]);
      case "type": return x.type(a[0], a[1]);
      case "wipe": return x.wipe(a[0]);
      case "fault": return x.fault(a[0]);
      case "given": return x.given(a[0]);
      case "tenths": return x.tenths(a[0], a[1]);
      case "world": return x.world(a[0]);
      case "made": return x.made(a[0], a[1], a[2], a[3], a[4]);
      case "sheet": return x.sheet(a[0], a[1], a[2]);
      case "lose": return x.lose(a[0]);
      case "put": return x.put(a[0], a[1], a[2], a[3]);
      case "get": return x.get(a[0], a[1], a[2]);
      case "copy": return x.copy(a[0], a[1], a[2], a[3], a[4]);
      case "write": return x.write(a[0], a[1]);
      case "count": return x.count(a[0]);
      default: return x.digest();
    }
  }

  /** A fraction of big numbers in lowest terms. */
  private static final class Q implements Comparable<Q> {
    static final Q ZERO = of(0, 1);
    final BigInteger above;
    final BigInteger below;

    Q(BigInteger a, BigInteger b) {
      BigInteger common = a.gcd(b);
      above = a.divide(common);
      below = b.divide(common);
    }

    static Q of(long a, long b) {
      return new Q(BigInteger.valueOf(a), BigInteger.valueOf(b));
    }

    Q plus(Q o) {
      return new Q(above.multiply(o.below).add(o.above.multiply(below)), below.multiply(o.below));
    }

    Q times(Q o) {
      return new Q(above.multiply(o.above), below.multiply(o.below));
    }

    Q less(Q o) {
      return plus(o.times(of(-1, 1)));
    }

    public int compareTo(Q o) {
      return above.multiply(o.below).compareTo(o.above.multiply(below));
    }

    long told(int what) {
      return (what == 0 ? above : below).longValueExact();
    }

    static Q mean(List<Q> all) {
      Q sum = ZERO;
      for (Q q : all) {
        sum = sum.plus(q);
      }
      return all.isEmpty() ? null : sum.times(of(1, all.size()));
    }
  }

  private static final class Race {
    int lengths;
    int day;
  }

  private static final class Swim {
    Race race;
    int number;
    int swimmer;
    int lane;
    int[] times;
  }

  /** The document's words, as slow as they come. */
  private static final class Model {
    static final long LEAST = Long.MIN_VALUE;
    final List<Race> races = new ArrayList<>();
    final List<Swim> swims = new ArrayList<>();
    final int[] seeds = new int[24];
    final String[] texts = {"", ""};
    final Object[] sheets = new Object[4];
    int finding = 0;
    Q[] laneDiffs = null;
    Q[] shapes = null;
    Q meanOfDiffs = null;
    Q meanOfShapes = null;

    Model() {
      java.util.Arrays.fill(seeds, 3000);
    }

    static boolean in(int v, int a, int b) {
      return a <= v && v <= b;
    }

    int find(int n) {
      finding = n;
      return -10 - n;
    }

    int race(int lengths, int day) {
      if (!in(lengths, 1, 4) || !in(day, 0, 9)) return -2;
      if (races.size() == 16) return -4;
      Race r = new Race();
      r.lengths = lengths;
      r.day = day;
      races.add(r);
      return races.size() - 1;
    }

    int swim(int race, int swimmer, int lane) {
      if (!in(race, 0, races.size() - 1) || !in(swimmer, 0, 23) || !in(lane, 0, 7)) return -2;
      for (Swim s : swims) {
        if (s.number == race && s.swimmer == swimmer) return -2;
        if (s.number == race && s.lane == lane) return -2;
      }
      if (swims.size() == 64) return -4;
      Swim s = new Swim();
      s.number = race;
      s.race = races.get(race);
      s.swimmer = swimmer;
      s.lane = lane;
      s.times = new int[s.race.lengths];
      java.util.Arrays.fill(s.times, -1);
      swims.add(s);
      return swims.size() - 1;
    }

    boolean noSwim(int swim) {
      return !in(swim, 0, swims.size() - 1);
    }

    int time(int swim, int length, int v) {
      if (noSwim(swim)) return -5;
      int[] times = swims.get(swim).times;
      if (!in(length, 0, times.length - 1)) return -5;
      if (v != -1 && !in(v, 1, 9999)) return -5;
      int was = times[length];
      times[length] = v;
      return was;
    }

    int sizeOf(Object sheet) {
      return java.lang.reflect.Array.getLength(sheet);
    }

    int typeOf(Object sheet) {
      return sheet instanceof byte[] ? 0 : sheet instanceof short[] ? 1 : 2;
    }

    void store(Object sheet, int i, int v) {
      if (sheet instanceof byte[]) ((byte[]) sheet)[i] = (byte) v;
      else if (sheet instanceof short[]) ((short[]) sheet)[i] = (short) v;
      else ((int[]) sheet)[i] = v;
    }

    int read(int s, int swim) {
      if (!in(s, 0, 3) || noSwim(swim)) return -2;
      if (sheets[s] == null) return find(1);
      int done = 0;
      for (int k = 0; k < swims.get(swim).times.length && k < sizeOf(sheets[s]); k++) {
        if (time(swim, k, java.lang.reflect.Array.getInt(sheets[s], k)) == -5) break;
        done++;
      }
      return done;
    }

    int seeds(int swimmer, int v) {
      if (!in(swimmer, 0, 23) || !in(v, 1, 9999)) return -2;
      int was = seeds[swimmer];
      seeds[swimmer] = v;
      return was;
    }

    int about(int swim, int what) {
      if (noSwim(swim) || !in(what, 0, 6)) return -2;
      Swim s = swims.get(swim);
      int felt = 0;
      int total = 0;
      for (int t : s.times) {
        if (t != -1) {
          felt++;
          total += t;
        }
      }
      int[] all = {s.number, s.swimmer, s.lane, s.race.day, s.race.lengths, felt,
          felt == s.times.length ? total : -1};
      return all[what];
    }

    Q diffOf(Swim s) {
      List<Q> out = new ArrayList<>();
      List<Q> home = new ArrayList<>();
      for (int k = 0; k < s.times.length; k++) {
        if (s.times[k] != -1) (k % 2 == 0 ? out : home).add(Q.of(s.times[k], 1));
      }
      return out.isEmpty() || home.isEmpty() ? null : Q.mean(out).less(Q.mean(home));
    }

    long diff(int swim, int what) {
      if (noSwim(swim) || !in(what, 0, 1)) return LEAST + 2;
      Q d = diffOf(swims.get(swim));
      return d == null ? LEAST + 3 : d.told(what);
    }

    List<Q> diffsIn(int from, int to) {
      List<Q> all = new ArrayList<>();
      for (Swim s : swims) {
        if (in(s.lane, from, to) && diffOf(s) != null) all.add(diffOf(s));
      }
      return all;
    }

    Q laneDiff(int lane) {
      remember();
      return laneDiffs[lane];
    }

    /** What follows from the times is kept for one call, or the model would take minutes. */
    void forget() {
      laneDiffs = null;
    }

    void remember() {
      if (laneDiffs != null) return;
      laneDiffs = new Q[8];
      shapes = new Q[8];
      for (int lane = 0; lane < 8; lane++) laneDiffs[lane] = Q.mean(diffsIn(lane, lane));
      for (int lane = 0; lane < 8; lane++) shapes[lane] = shapeOf(lane);
      meanOfDiffs = meanOf(laneDiffs);
      meanOfShapes = meanOf(shapes);
    }

    Q meanOf(Q[] lanes) {
      List<Q> all = new ArrayList<>();
      for (Q q : lanes) {
        if (q != null) all.add(q);
      }
      return Q.mean(all);
    }

    Q shape(int lane) {
      remember();
      return shapes[lane];
    }

    /** The shape that never falls, by its other face: greatest of least means over all spans. */
    Q shapeOf(int lane) {
      if (laneDiff(lane) == null) return null;
      Q greatest = null;
      for (int from = 0; from <= lane; from++) {
        Q least = null;
        if (laneDiff(from) == null) continue;
        for (int to = lane; to < 8; to++) {
          Q mean = Q.mean(diffsIn(from, to));
          if (laneDiff(to) != null && (least == null || mean.compareTo(least) < 0)) least = mean;
        }
        if (greatest == null || least.compareTo(greatest) > 0) greatest = least;
      }
      return greatest;
    }

    long lane(int lane, int which, int what) {
      if (!in(lane, 0, 7) || !in(which, 0, 2) || !in(what, 0, 1)) return LEAST + 2;
      Q d = laneDiff(lane);
      if (d == null) return LEAST + 3;
      return (which == 0 ? d : which == 1 ? d.less(meanOfDiffs) : shape(lane)).told(what);
    }

    int counts(int lane) {
      return in(lane, 0, 7) ? diffsIn(lane, lane).size() : -2;
    }

    int lean(int from, int to) {
      if (!in(from, 0, 9) || !in(to, 0, 9) || from > to) return -9999;
      int lean = 0;
      for (Swim a : swims) {
        for (Swim b : swims) {
          if (a.race != b.race || a.lane >= b.lane || !in(a.race.day, from, to)) continue;
          Q low = diffOf(a);
          Q high = diffOf(b);
          if (low != null && high != null) lean += Integer.signum(high.compareTo(low));
        }
      }
      return lean;
    }

    int chance() {
      List<Q> all = new ArrayList<>();
      for (int lane = 0; lane < 8; lane++) {
        if (laneDiff(lane) != null) all.add(laneDiff(lane));
      }
      if (all.size() < 2) return -3;
      if (all.size() > 7) return -4;
      // over one divisor, so that the many orders are summed in whole numbers
      BigInteger below = BigInteger.ONE;
      for (Q q : all) below = below.multiply(q.below);
      long[] whole = new long[all.size()];
      BigInteger common = below;
      for (Q q : all) common = common.gcd(below.divide(q.below));
      long now = 0;
      for (int i = 0; i < whole.length; i++) {
        Q q = all.get(i);
        whole[i] = q.above.multiply(below.divide(q.below)).divide(common).longValueExact();
        now += i * whole[i];
      }
      long[] counted = new long[2];
      deal(whole, 0, 0, 0, now, counted);
      return (int) (counted[1] * 1000000 / counted[0]);
    }

    void deal(long[] all, int used, int place, long sum, long now, long[] counted) {
      if (place == all.length) {
        counted[0]++;
        if (sum >= now) counted[1]++;
        return;
      }
      for (int i = 0; i < all.length; i++) {
        if ((used & 1 << i) == 0) deal(all, used | 1 << i, place + 1, sum + place * all[i], now, counted);
      }
    }

    int ran(int what) {
      if (!in(what, 0, 1)) return -2;
      int[] of = new int[10];
      for (int day = 0; day < 10; day++) of[day] = lean(day, day);
      int greatest = Integer.MIN_VALUE;
      int[] best = new int[2];
      for (int from = 0; from < 10; from++) {
        for (int to = from; to < 10; to++) {
          int sum = 0;
          for (int day = from; day <= to; day++) sum += of[day];
          if (sum > greatest) {
            greatest = sum;
            best[0] = from;
            best[1] = to;
          }
        }
      }
      return best[what];
    }

    Q ownOf(int swimmer) {
      List<Q> all = new ArrayList<>();
      for (Swim s : swims) {
        if (s.swimmer == swimmer && diffOf(s) != null) all.add(diffOf(s).less(laneDiff(s.lane)));
      }
      return Q.mean(all);
    }

    long own(int swimmer, int what) {
      if (!in(swimmer, 0, 23) || !in(what, 0, 1)) return LEAST + 2;
      Q own = ownOf(swimmer);
      return own == null ? LEAST + 3 : own.told(what);
    }

    int fast(int by) {
      if (!in(by, 0, 9999)) return -2;
      int bits = 0;
      for (int swimmer = 0; swimmer < 24; swimmer++) {
        Q own = ownOf(swimmer);
        if (own != null && own.plus(Q.of(by, 1)).compareTo(Q.ZERO) <= 0) bits += 1 << swimmer;
      }
      return bits;
    }

    boolean single(Swim s) {
      return s.race.lengths == 1 && s.times[0] != -1;
    }

    int twice(int a, int b) {
      if (!in(a, 0, 7) || !in(b, 0, 7) || a == b) return -2;
      int many = 0;
      for (Swim s : swims) {
        for (Swim t : swims) {
          if (single(s) && single(t) && s.swimmer == t.swimmer && s.lane == a && t.lane == b
              && s.times[0] < t.times[0]) many++;
        }
      }
      return many;
    }

    int order(int place) {
      return in(place, -1, 7) ? orderRow()[place + 1] : -2;
    }

    /** How many pairs, then the lanes. */
    int[] orderRow() {
      int[][] over = new int[8][8];
      for (int a = 0; a < 8; a++) {
        for (int b = 0; b < 8; b++) over[a][b] = a == b ? 0 : twice(a, b);
      }
      int[] best = new int[9];
      best[0] = -1;
      tryOrders(over, new int[8], 0, 0, 0, best);
      return best;
    }

    void tryOrders(int[][] over, int[] row, int used, int place, int sum, int[] best) {
      if (place == 8) {
        if (sum > best[0]) {
          best[0] = sum;
          System.arraycopy(row, 0, best, 1, 8);
        }
        return;
      }
      for (int lane = 0; lane < 8; lane++) {
        if ((used & 1 << lane) != 0) continue;
        int more = 0;
        for (int ahead = 0; ahead < place; ahead++) more += over[row[ahead]][lane];
        row[place] = lane;
        tryOrders(over, row, used | 1 << lane, place + 1, sum + more, best);
      }
    }

    Q rightOf(Swim s) {
      Q its = shape(s.lane);
      Q time = Q.of(s.times[0], 1);
      return its == null ? time : time.less(its.less(meanOfShapes).times(Q.of(1, 2)));
    }

    long right(int swim, int what) {
      if (noSwim(swim) || !in(what, 0, 1)) return LEAST + 2;
      Swim s = swims.get(swim);
      return single(s) ? rightOf(s).told(what) : LEAST + 3;
    }

    int place(int swim, int by) {
      if (noSwim(swim) || !in(by, 0, 1)) return -2;
      Swim s = swims.get(swim);
      if (!single(s)) return -3;
      int place = 1;
      for (Swim o : swims) {
        if (o == s || o.race != s.race || !single(o)) continue;
        if (by == 0 ? o.times[0] < s.times[0] : rightOf(o).compareTo(rightOf(s)) < 0) place++;
      }
      return place;
    }

    int medals(int race) {
      if (!in(race, 0, races.size() - 1)) return -2;
      if (races.get(race).lengths > 1) return -3;
      int many = 0;
      for (int i = 0; i < swims.size(); i++) {
        if (swims.get(i).number != race || !single(swims.get(i))) continue;
        boolean before = place(i, 0) <= 3;
        boolean after = place(i, 1) <= 3;
        if (before ^ after) many++;
      }
      return many;
    }

    int type(int text, int b) {
      if (!in(text, 0, 1) || !in(b, 0, 255)) return -2;
      if (texts[text].length() == (text == 0 ? 8 : 60)) return -4;
      texts[text] += (char) b;
      return texts[text].length();
    }

    int wipe(int text) {
      if (!in(text, 0, 1)) return -2;
      int had = texts[text].length();
      texts[text] = "";
      return had;
    }

    static final String PART = "(?:p[0-7]=-?[0-9]{1,2}|f=[0-9]{1,2}|r=[0-9])";
    static final Pattern WORLD = Pattern.compile(PART + "(?:;" + PART + ")*");
    static final Pattern RULE = Pattern.compile("(?:([0-7])(?!.*\\1))*", Pattern.DOTALL);

    int fault(int text) {
      if (!in(text, 0, 1)) return -2;
      String t = texts[text];
      for (int i = 0; i < t.length(); i++) {
        Matcher m = (text == 0 ? RULE : WORLD).matcher(t.substring(0, i + 1));
        if (!m.matches() && (text == 0 || !m.hitEnd())) return i;
      }
      boolean well = text == 0 ? t.length() == 8 : t.isEmpty() || WORLD.matcher(t).matches();
      return well ? -1 : t.length();
    }

    int given(int race) {
      if (!in(race, 0, races.size() - 1)) return -2;
      if (fault(0) != -1) return -3;
      List<Swim> all = new ArrayList<>();
      for (Swim s : swims) {
        if (s.number == race) all.add(s);
      }
      all.sort((s, t) -> s.swimmer - t.swimmer);
      all.sort((s, t) -> seeds[s.swimmer] - seeds[t.swimmer]);
      for (int i = 0; i < all.size(); i++) {
        if (all.get(i).lane != texts[0].charAt(i) - '0') return 0;
      }
      return 1;
    }

    int tenths(int race, int what) {
      if (!in(race, -1, races.size() - 1) || !in(what, 0, 2)) return -2;
      int felt = 0;
      int even = 0;
      for (Swim s : swims) {
        for (int t : s.times) {
          if ((race == -1 || s.number == race) && t != -1) {
            felt++;
            if (("" + t).endsWith("0")) even++;
          }
        }
      }
      if (what < 2) return what == 0 ? felt : even;
      if (felt > 18) return -4;
      Q chance = Q.ZERO;
      Q[] exactly = new Q[felt + 2];
      java.util.Arrays.fill(exactly, Q.ZERO);
      exactly[0] = Q.of(1, 1);
      for (int n = 0; n < felt; n++) {
        for (int k = n + 1; k >= 0; k--) {
          exactly[k] = exactly[k].times(Q.of(9, 10))
              .plus(k == 0 ? Q.ZERO : exactly[k - 1].times(Q.of(1, 10)));
        }
      }
      for (int k = even; k <= felt; k++) chance = chance.plus(exactly[k]);
      return chance.above.multiply(BigInteger.valueOf(1000000)).divide(chance.below).intValueExact();
    }

    int[] laws() {
      int[] all = new int[10];
      if (fault(1) != -1 || texts[1].isEmpty()) return all;
      for (String part : texts[1].split(";")) {
        String[] sides = part.split("=");
        int at = sides[0].equals("f") ? 8 : sides[0].equals("r") ? 9 : sides[0].charAt(1) - '0';
        all[at] = Integer.parseInt(sides[1]);
      }
      return all;
    }

    int world(int what) {
      return in(what, 0, 9) ? laws()[what] : -5000;
    }

    int made(int lengths, int day, int first, int many, int seed) {
      if (!in(lengths, 1, 4) || !in(day, 0, 9) || !in(first, 0, 23) || !in(many, 1, 8)
          || first + many > 24) return -2;
      if (races.size() == 16 || swims.size() + many > 64) return -4;
      int number = race(lengths, day);
      int[] laws = laws();
      List<Integer> ranked = new ArrayList<>();
      for (int i = 0; i < many; i++) ranked.add(first + i);
      if (fault(0) == -1) ranked.sort((a, b) -> seeds[a] - seeds[b]);
      long state = seed;
      for (int swimmer = first; swimmer < first + many; swimmer++) {
        int rank = ranked.indexOf(swimmer);
        int lane = fault(0) == -1 ? texts[0].charAt(rank) - '0' : rank;
        int swim = swim(number, swimmer, lane);
        for (int k = 0; k < lengths; k++) {
          state = 1103515245L * state + 12345 & 0xffffffffL;
          int lot = (int) ((state >> 16) % (2 * laws[9] + 1));
          int v = seeds[swimmer] + k * laws[8] + (k % 2 == 0 ? 1 : -1) * laws[lane] + lot - laws[9];
          time(swim, k, v < 1 ? 1 : v > 9999 ? 9999 : v);
        }
      }
      return number;
    }

    int sheet(int s, int type, int n) {
      if (!in(s, 0, 3) || !in(type, 0, 2) || n > 48) return -2;
      if (n < 0) return find(5);
      sheets[s] = type == 0 ? new byte[n] : type == 1 ? new short[n] : new int[n];
      return n;
    }

    int lose(int s) {
      if (!in(s, 0, 3)) return -2;
      if (sheets[s] == null) return find(1);
      int had = sizeOf(sheets[s]);
      sheets[s] = null;
      return had;
    }

    int item(int s, int type, int i) {
      if (!in(s, 0, 3) || !in(type, 0, 2)) return -2;
      if (sheets[s] == null) return find(1);
      if (typeOf(sheets[s]) != type) return find(3);
      return in(i, 0, sizeOf(sheets[s]) - 1) ? 1 : find(2);
    }

    int put(int s, int type, int i, int v) {
      int may = item(s, type, i);
      if (may == 1) store(sheets[s], i, v);
      return may;
    }

    int get(int s, int type, int i) {
      return item(s, type, i) == 1 ? java.lang.reflect.Array.getInt(sheets[s], i) : Integer.MIN_VALUE;
    }

    int copy(int s, int i, int t, int j, int n) {
      if (!in(s, 0, 3) || !in(t, 0, 3)) return -2;
      if (sheets[s] == null || sheets[t] == null) return find(1);
      if (typeOf(sheets[s]) != typeOf(sheets[t])) return find(4);
      if (i < 0 || j < 0 || n < 0 || (long) i + n > sizeOf(sheets[s]) || (long) j + n > sizeOf(sheets[t])) {
        return find(2);
      }
      int[] kept = new int[n];
      for (int k = 0; k < n; k++) kept[k] = java.lang.reflect.Array.getInt(sheets[s], i + k);
      for (int k = 0; k < n; k++) store(sheets[t], j + k, kept[k]);
      return 1;
    }

    int write(int swim, int s) {
      if (noSwim(swim) || !in(s, 0, 3)) return -2;
      if (sheets[s] == null) return find(1);
      int many = 0;
      for (int t : swims.get(swim).times) {
        if (many < sizeOf(sheets[s])) store(sheets[s], many++, t);
      }
      return many;
    }

    int count(int what) {
      int single = 0;
      int diff = 0;
      int felt = 0;
      int together = 0;
      for (Swim s : swims) {
        if (single(s)) single++;
        if (diffOf(s) != null) diff++;
        for (int t : s.times) {
          if (t == -1) continue;
          felt++;
          together += t;
        }
      }
      int[] all = {races.size(), swims.size(), single, diff, felt, texts[0].length(),
          texts[1].length(), together, finding};
      return in(what, 0, 8) ? all[what] : -2;
    }

    long digest() {
      List<Long> all = new ArrayList<>();
      for (int what = 0; what <= 7; what++) all.add((long) count(what));
      for (int lane = 0; lane < 8; lane++) {
        all.add((long) counts(lane));
        for (int i = 0; i < 6; i++) all.add(lane(lane, i / 2, i % 2));
      }
      all.add((long) lean(0, 9));
      all.add((long) chance());
      all.add((long) ran(0));
      all.add((long) ran(1));
      for (int v : orderRow()) all.add((long) v);
      all.add((long) fault(0));
      all.add((long) fault(1));
      for (int race = 0; race < races.size(); race++) {
        all.add((long) tenths(race, 0));
        all.add((long) tenths(race, 1));
        all.add((long) given(race));
        all.add((long) medals(race));
      }
      for (Swim s : swims) {
        for (int t : s.times) all.add((long) t);
      }
      for (int what = 0; what < 10; what++) all.add((long) world(what));
      long h = 17;
      for (long v : all) h = 31 * h + v;
      return h;
    }
  }
}
