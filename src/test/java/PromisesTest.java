/**
 * Promise by promise: ordinary calls, the edges that the document names, and wrong arguments, each
 * with the answer that is due, worked out by hand. Exit code 1 if an answer is another one.
 */
public final class PromisesTest {
  private static final int NONE = -1, BAD = -2, NOT = -3, FULL = -4;
  private static final int NULL = -11, INDEX = -12, CAST = -13, STORE = -14, SIZE = -15;
  private static final long LONG_BAD = Long.MIN_VALUE + 2, LONG_NOT = Long.MIN_VALUE + 3;
  private static final int LEAST = Integer.MIN_VALUE, MOST = Integer.MAX_VALUE;

  private static int promise = 0;
  private static int asked = 0;
  private static int wrong = 0;

  public static void main(String[] args) {
    newObject();
    races();
    swims();
    times();
    reading();
    seeds();
    about();
    diffs();
    lanes();
    counts();
    leans();
    chances();
    ran();
    owns();
    fast();
    twice();
    orders();
    rights();
    places();
    medals();
    typing();
    wiping();
    faultsOfTheRule();
    faultsOfAWorld();
    given();
    tenths();
    worlds();
    made();
    sheets();
    losing();
    putting();
    getting();
    copying();
    writing();
    counting();
    digests();
    System.out.println(asked + " answers asked, " + wrong + " are not as due");
    if (wrong != 0) {
      System.exit(1);
    }
  }

  private static void due(String call, long got, long want) {
    asked++;
    if (got != want) {
      wrong++;
      System.out.println("promise " + promise + ": " + call + " answered " + got + ", due is " + want);
    }
  }

  /** A race of some lengths with one swim for each row: swimmer, lane, times. */
  private static int raceOf(LaneFour x, int lengths, int day, int[]... rows) {
    int race = x.race(lengths, day);
    for (int[] row : rows) {
      int swim = x.swim(race, row[0], row[1]);
      if (swim < 0) {
        due("swim of a test's own race", swim, 0);
      }
      for (int k = 2; k < row.length; k++) {
        x.time(swim, k - 2, row[k]);
      }
    }
    return race;
  }

  private static int[] row(int... values) {
    return values;
  }

  private static void text(LaneFour x, int text, String bytes) {
    x.wipe(text);
    for (int i = 0; i < bytes.length(); i++) {
      x.type(text, bytes.charAt(i));
    }
  }

  /** A refusal leaves the object as it was: asked by what the digest and the sheets tell. */
  private static void unchanged(LaneFour x, long before) {
    due("digest() after a refusal", x.digest(), before);
  }

  private static void newObject() {
    promise = 1;
    LaneFour x = new LaneFour();
    for (int what = 0; what <= 8; what++) {
      due("count(" + what + ")", x.count(what), 0);
    }
    due("fault(0)", x.fault(0), 0);
    due("fault(1)", x.fault(1), NONE);
    for (int swimmer = 0; swimmer < 24; swimmer++) {
      due("seeds", x.seeds(swimmer, 1), 3000);
    }
    for (int s = 0; s < 4; s++) {
      due("lose(" + s + ")", x.lose(s), NULL);
    }
    due("medals(0)", x.medals(0), BAD);
    due("NONE", LaneFour.NONE, -1);
    due("BAD", LaneFour.BAD, -2);
    due("NOT", LaneFour.NOT, -3);
    due("FULL", LaneFour.FULL, -4);
    x.race(1, 0);
    due("count(0) of another one", new LaneFour().count(0), 0);
  }

  private static void races() {
    promise = 2;
    LaneFour x = new LaneFour();
    int[][] bad = {{0, 0}, {5, 0}, {-1, 0}, {1, -1}, {1, 10}, {MOST, 0}, {LEAST, 0}, {1, MOST}, {1, LEAST}};
    for (int[] b : bad) {
      due("race(bad)", x.race(b[0], b[1]), BAD);
    }
    due("count(0)", x.count(0), 0);
    for (int r = 0; r < 16; r++) {
      due("race", x.race(1 + r % 4, r % 10), r);
    }
    due("race of too many", x.race(4, 9), FULL);
    due("race of too many, bad", x.race(5, 9), BAD);
    due("count(0)", x.count(0), 16);
    due("swim(15, ..)", x.swim(15, 0, 0), 0);
    due("about 4", x.about(0, 4), 4);
    due("about 3", x.about(0, 3), 5);
  }

  private static void swims() {
    promise = 3;
    LaneFour x = new LaneFour();
    due("swim without a race", x.swim(0, 0, 0), BAD);
    x.race(2, 3);
    x.race(2, 4);
    int[][] bad = {{2, 0, 0}, {-1, 0, 0}, {0, -1, 0}, {0, 24, 0}, {0, 0, -1}, {0, 0, 8},
        {MOST, 0, 0}, {LEAST, 0, 0}, {0, MOST, 0}, {0, LEAST, 0}, {0, 0, MOST}, {0, 0, LEAST}};
    for (int[] b : bad) {
      due("swim(bad)", x.swim(b[0], b[1], b[2]), BAD);
    }
    due("swim", x.swim(0, 23, 7), 0);
    due("time not felt", x.time(0, 0, -1), -1);
    due("time not felt", x.time(0, 1, -1), -1);
    due("its swimmer again", x.swim(0, 23, 0), BAD);
    due("its lane again", x.swim(0, 0, 7), BAD);
    due("the same in another race", x.swim(1, 23, 7), 1);
    due("another one", x.swim(0, 0, 0), 2);
    due("count(1)", x.count(1), 3);

    LaneFour full = new LaneFour();
    for (int i = 0; i < 64; i++) {
      if (i % 8 == 0) {
        full.race(1, 0);
      }
      due("swim", full.swim(i / 8, i % 8, i % 8), i);
    }
    for (int i = 0; i < 64; i++) {
      due("time not felt", full.time(i, 0, -1), -1);
    }
    int more = full.race(1, 0);
    due("one more", full.swim(more, 0, 0), FULL);
    due("one more, bad", full.swim(more, 24, 0), BAD);
    due("one more, taken", full.swim(0, 0, 0), BAD);
    due("count(1)", full.count(1), 64);
  }

  private static void times() {
    promise = 4;
    LaneFour x = new LaneFour();
    due("time without a swim", x.time(0, 0, 5), -5);
    raceOf(x, 3, 0, row(0, 0));
    due("time", x.time(0, 0, 1), -1);
    due("time", x.time(0, 0, 9999), 1);
    due("time", x.time(0, 2, 5), -1);
    due("time", x.time(0, 0, -1), 9999);
    due("time", x.time(0, 0, 7), -1);
    int[][] bad = {{0, 3, 5}, {0, -1, 5}, {1, 0, 5}, {-1, 0, 5}, {0, 0, 0}, {0, 0, -2}, {0, 0, 10000},
        {MOST, 0, 5}, {LEAST, 0, 5}, {0, MOST, 5}, {0, LEAST, 5}, {0, 0, MOST}, {0, 0, LEAST}};
    for (int[] b : bad) {
      due("time(bad)", x.time(b[0], b[1], b[2]), -5);
    }
    due("it stays", x.time(0, 0, 8), 7);
    due("others stay", x.time(0, 2, 8), 5);
  }

  private static void reading() {
    promise = 5;
    LaneFour x = new LaneFour();
    raceOf(x, 3, 0, row(0, 0), row(1, 1));
    due("of a lost sheet", x.read(0, 0), NULL);
    due("count(8)", x.count(8), 1);
    due("no sheet", x.read(4, 0), BAD);
    due("no sheet", x.read(-1, 0), BAD);
    due("no swim, lost", x.read(0, 2), BAD);
    due("no swim", x.read(0, -1), BAD);
    x.sheet(0, 2, 5);
    int[] items = {3000, -1, 9999, 4, 5};
    for (int i = 0; i < 5; i++) {
      x.put(0, 2, i, items[i]);
    }
    due("as many as lengths", x.read(0, 0), 3);
    due("about 5", x.about(0, 5), 2);
    due("time", x.time(0, 0, 2), 3000);
    due("time", x.time(0, 1, 2), -1);
    due("time", x.time(0, 2, 2), 9999);
    x.put(0, 2, 1, 10000);
    due("up to the first that may not be", x.read(0, 0), 1);
    due("time", x.time(0, 0, 2), 3000);
    due("time stays", x.time(0, 1, 2), 2);
    due("time stays", x.time(0, 2, 2), 2);
    for (int v : new int[] {0, -2, 10000, LEAST, MOST}) {
      x.put(0, 2, 0, v);
      due("the first may not be", x.read(0, 0), 0);
    }
    due("of a shorter one", x.sheet(1, 0, 2), 2);
    x.put(1, 0, 0, 127);
    x.put(1, 0, 1, 255);
    due("read", x.read(1, 1), 2);
    due("time", x.time(1, 0, 2), 127);
    due("a byte of 255 is -1", x.time(1, 1, 2), -1);
    x.sheet(1, 1, 0);
    due("of an empty one", x.read(1, 1), 0);
    due("others stay", x.time(0, 0, 2), 2);
  }

  private static void seeds() {
    promise = 6;
    LaneFour x = new LaneFour();
    due("seeds", x.seeds(0, 1), 3000);
    due("seeds", x.seeds(0, 9999), 1);
    due("seeds", x.seeds(23, 5), 3000);
    int[][] bad = {{24, 5}, {-1, 5}, {0, 0}, {0, -1}, {0, 10000}, {MOST, 5}, {LEAST, 5}, {0, MOST}, {0, LEAST}};
    for (int[] b : bad) {
      due("seeds(bad)", x.seeds(b[0], b[1]), BAD);
    }
    due("they stay", x.seeds(0, 7), 9999);
    due("they stay", x.seeds(23, 7), 5);
    due("others", x.seeds(1, 7), 3000);
  }

  private static void about() {
    promise = 7;
    LaneFour x = new LaneFour();
    due("about nothing", x.about(0, 0), BAD);
    raceOf(x, 1, 2);
    raceOf(x, 4, 9, row(23, 7, 10, 20, 30, 40), row(5, 2, 10, -1, 30, -1), row(6, 3));
    int[][] due = {{1, 23, 7, 9, 4, 4, 100}, {1, 5, 2, 9, 4, 2, NONE}, {1, 6, 3, 9, 4, 0, NONE}};
    for (int swim = 0; swim < 3; swim++) {
      for (int what = 0; what < 7; what++) {
        due("about(" + swim + ", " + what + ")", x.about(swim, what), due[swim][what]);
      }
    }
    due("about", x.about(0, 7), BAD);
    due("about", x.about(0, -1), BAD);
    due("about", x.about(3, 0), BAD);
    due("about", x.about(-1, 0), BAD);
    due("about", x.about(MOST, 0), BAD);
    due("about", x.about(LEAST, 0), BAD);
    due("about", x.about(0, LEAST), BAD);
  }

  private static void diffs() {
    promise = 8;
    LaneFour x = new LaneFour();
    raceOf(x, 4, 0, row(0, 0, 100, 90, 111, 91), row(1, 1, 100, 90, -1, 91), row(2, 2, -1, -1, 50, 70),
        row(3, 3, 100, -1, 100, -1), row(4, 4, -1, 100, -1, 100), row(5, 5, 1, 9999, 2, 9999));
    raceOf(x, 3, 0, row(0, 0, 10, 20, 31), row(1, 1, 10, 20, 30));
    raceOf(x, 1, 0, row(0, 0, 10));
    long[][] due = {{15, 1}, {19, 2}, {-20, 1}, {LONG_NOT, LONG_NOT}, {LONG_NOT, LONG_NOT}, {-19995, 2},
        {1, 2}, {0, 1}, {LONG_NOT, LONG_NOT}};
    for (int swim = 0; swim < due.length; swim++) {
      due("diff(" + swim + ", 0)", x.diff(swim, 0), due[swim][0]);
      due("diff(" + swim + ", 1)", x.diff(swim, 1), due[swim][1]);
    }
    due("diff", x.diff(9, 0), LONG_BAD);
    due("diff", x.diff(-1, 0), LONG_BAD);
    due("diff", x.diff(0, 2), LONG_BAD);
    due("diff", x.diff(0, -1), LONG_BAD);
    due("bad ahead of not", x.diff(8, 2), LONG_BAD);
    due("diff", x.diff(LEAST, MOST), LONG_BAD);
  }

  /** Lanes 1, 2, 4, 6 with DIFFS 10, 4 (of two), 8, 2: the shape joins all but nothing ahead. */
  private static LaneFour fourLanes() {
    LaneFour x = new LaneFour();
    raceOf(x, 2, 0, row(0, 1, 110, 100), row(1, 2, 103, 100), row(2, 4, 108, 100), row(3, 6, 120, 100));
    raceOf(x, 2, 1, row(0, 2, 105, 100), row(1, 6, 84, 100), row(2, 0, 100, -1));
    return x;
  }

  private static void lanes() {
    promise = 9;
    LaneFour x = fourLanes();
    // DIFFS 10, 4, 8, 2; their mean is 6; joined: (10 + 3 + 5) / 3 = 6, then 8 and (20 - 16) / 2 give 4,
    // which is less than 6: all six together, 30 / 6 = 5
    long[][] due = {{10, 4, 5}, {4, -2, 5}, {8, 2, 5}, {2, -4, 5}};
    int[] lanes = {1, 2, 4, 6};
    for (int i = 0; i < 4; i++) {
      for (int which = 0; which < 3; which++) {
        due("lane(" + lanes[i] + ", " + which + ", 0)", x.lane(lanes[i], which, 0), due[i][which]);
        due("lane(" + lanes[i] + ", " + which + ", 1)", x.lane(lanes[i], which, 1), 1);
      }
    }
    for (int lane : new int[] {0, 3, 5, 7}) {
      due("a lane without one", x.lane(lane, 0, 0), LONG_NOT);
      due("a lane without one", x.lane(lane, 1, 1), LONG_NOT);
      due("a lane without one", x.lane(lane, 2, 0), LONG_NOT);
    }
    // a rise ahead, a fall behind, a rise at the end; unlike COUNTS
    LaneFour y = new LaneFour();
    raceOf(y, 2, 0, row(0, 0, 101, 100), row(1, 3, 107, 100), row(2, 4, 104, 100), row(3, 7, 150, 100));
    raceOf(y, 2, 0, row(0, 3, 106, 100), row(1, 0, 100, 101));
    due("shape of lane 0", y.lane(0, 2, 0), 0);
    due("shape of lane 0", y.lane(0, 2, 1), 1);
    due("shape of lane 3", y.lane(3, 2, 0), 17);
    due("shape of lane 3", y.lane(3, 2, 1), 3);
    due("shape of lane 4", y.lane(4, 2, 0), 17);
    due("shape of lane 4", y.lane(4, 2, 1), 3);
    due("shape of lane 7", y.lane(7, 2, 0), 50);
    due("diff of lane 3", y.lane(3, 0, 0), 13);
    due("diff of lane 3", y.lane(3, 0, 1), 2);
    // the mean is (0 + 13/2 + 4 + 50) / 4 = 121/8
    due("push of lane 0", y.lane(0, 1, 0), -121);
    due("push of lane 0", y.lane(0, 1, 1), 8);
    due("push of lane 3", y.lane(3, 1, 0), -69);
    due("push of lane 3", y.lane(3, 1, 1), 8);
    due("push of lane 4", y.lane(4, 1, 0), -89);
    due("push of lane 7", y.lane(7, 1, 0), 279);
    int[][] bad = {{8, 0, 0}, {-1, 0, 0}, {0, 3, 0}, {0, -1, 0}, {0, 0, 2}, {0, 0, -1}, {1, 3, 0},
        {MOST, 0, 0}, {LEAST, 0, 0}, {0, LEAST, 0}, {0, 0, MOST}};
    for (int[] b : bad) {
      due("lane(bad)", y.lane(b[0], b[1], b[2]), LONG_BAD);
    }
  }

  private static void counts() {
    promise = 10;
    LaneFour x = fourLanes();
    int[] due = {0, 1, 2, 0, 1, 0, 2, 0};
    for (int lane = 0; lane < 8; lane++) {
      due("counts(" + lane + ")", x.counts(lane), due[lane]);
    }
    x.time(0, 0, -1);
    due("counts of a time not felt", x.counts(1), 0);
    due("counts", x.counts(8), BAD);
    due("counts", x.counts(-1), BAD);
    due("counts", x.counts(MOST), BAD);
    due("counts", x.counts(LEAST), BAD);
  }

  /** Days 2, 4, 5, 9 with LEANS 3, -1, 2, 0. */
  private static LaneFour fourDays() {
    LaneFour x = new LaneFour();
    raceOf(x, 2, 4, row(0, 5, 104, 100), row(1, 2, 105, 100));
    raceOf(x, 2, 2, row(0, 7, 103, 100), row(1, 0, 101, 100), row(2, 3, 102, 100));
    raceOf(x, 2, 5, row(0, 0, 101, 100), row(1, 1, 101, 100), row(2, 2, 102, 100), row(3, 3, 102, -1));
    raceOf(x, 2, 9, row(0, 0, 101, 100), row(1, 1, 101, 100));
    return x;
  }

  private static void leans() {
    promise = 11;
    LaneFour x = fourDays();
    due("lean(2, 2)", x.lean(2, 2), 3);
    due("lean(4, 4)", x.lean(4, 4), -1);
    due("lean(5, 5)", x.lean(5, 5), 2);
    due("lean(9, 9)", x.lean(9, 9), 0);
    due("lean(2, 4)", x.lean(2, 4), 2);
    due("lean(0, 9)", x.lean(0, 9), 4);
    due("lean(3, 9)", x.lean(3, 9), 1);
    due("lean(6, 8)", x.lean(6, 8), 0);
    // races of one day are not compared with one another
    raceOf(x, 2, 9, row(0, 7, 300, 100));
    due("lean(9, 9)", x.lean(9, 9), 0);
    int[][] bad = {{1, 0}, {-1, 0}, {0, 10}, {10, 10}, {9, 8}, {LEAST, 0}, {0, MOST}, {MOST, LEAST}};
    for (int[] b : bad) {
      due("lean(bad)", x.lean(b[0], b[1]), -9999);
    }
  }

  private static void chances() {
    promise = 12;
    LaneFour x = new LaneFour();
    due("of no lane", x.chance(), NOT);
    raceOf(x, 2, 0, row(0, 3, 100, 100));
    due("of one lane", x.chance(), NOT);
    raceOf(x, 2, 0, row(0, 5, 100, 100));
    due("of two like ones", x.chance(), 1000000);
    raceOf(x, 2, 0, row(0, 5, 102, 100));
    due("of a rise", x.chance(), 500000);
    raceOf(x, 2, 0, row(0, 5, 50, 100));
    due("of a fall", x.chance(), 1000000);
    // DIFFS 1, 3, 2 in lanes 0, 1, 7: the sum is 7; of all six 8, 7, 7, 5, 5, 4 three are as great
    LaneFour y = new LaneFour();
    raceOf(y, 2, 0, row(0, 7, 102, 100), row(1, 1, 103, 100), row(2, 0, 101, 100));
    due("of three", y.chance(), 500000);
    // 0, 1, 1/2, 3 have 11; so has 1/2, 0, 1, 3, and 0, 1/2, 1, 3 has more: three of 24
    LaneFour z = new LaneFour();
    raceOf(z, 2, 0, row(0, 0, 100, 100), row(1, 1, 101, 100), row(2, 2, 100, 100), row(3, 3, 103, 100));
    raceOf(z, 2, 0, row(2, 2, 101, 100));
    due("of four", z.chance(), 125000);
    LaneFour half = new LaneFour();
    raceOf(half, 3, 0, row(0, 0, 100, 100, 100), row(1, 1, 100, 100, 101));
    due("of a rise by a half", half.chance(), 500000);
    LaneFour rise = new LaneFour();
    int race = rise.race(2, 0);
    for (int lane = 0; lane < 7; lane++) {
      rise.swim(race, lane, lane);
      rise.time(lane, 0, 100 + lane);
      rise.time(lane, 1, 100);
    }
    due("of seven", rise.chance(), 1000000 / 5040);
    rise.swim(race, 7, 7);
    rise.time(7, 0, 100);
    due("of seven, one without a DIFF", rise.chance(), 1000000 / 5040);
    rise.time(7, 1, 100);
    due("of eight", rise.chance(), FULL);
    for (int swim = 0; swim < 7; swim++) {
      rise.time(swim, 0, 200 - swim);
    }
    rise.time(7, 0, -1);
    due("of seven that fall", rise.chance(), 1000000);
  }

  private static void ran() {
    promise = 13;
    LaneFour x = fourDays();
    // 0 to 5 and 2 to 5 have 4: the first ones begin first; 0 to 6 and more end later
    due("ran(0)", x.ran(0), 0);
    due("ran(1)", x.ran(1), 5);
    due("ran(2)", x.ran(2), BAD);
    due("ran(-1)", x.ran(-1), BAD);
    due("ran", x.ran(LEAST), BAD);
    LaneFour y = new LaneFour();
    due("ran(0)", y.ran(0), 0);
    due("ran(1)", y.ran(1), 0);
    for (int day = 0; day < 10; day++) {
      raceOf(y, 2, day, row(0, 0, 105, 100), row(1, 1, day == 6 ? 105 : 104, 100));
    }
    due("the least bad day", y.ran(0), 6);
    due("the least bad day", y.ran(1), 6);
    y.time(2, 0, 106);
    due("day 1 has more than day 6", y.ran(0), 6);
    y.time(3, 0, 107);
    due("day 1 alone", y.ran(0), 1);
    due("day 1 alone", y.ran(1), 1);
    // day 0 falls, day 9 rises: days 1 to 9 are the first that have 1
    LaneFour z = new LaneFour();
    raceOf(z, 2, 0, row(0, 0, 105, 100), row(1, 1, 104, 100));
    raceOf(z, 2, 9, row(0, 0, 105, 100), row(1, 1, 106, 100));
    due("ran(0)", z.ran(0), 1);
    due("ran(1)", z.ran(1), 9);
  }

  private static void owns() {
    promise = 14;
    LaneFour x = fourLanes();
    // swimmer 0: 10 - 10, 5 - 4; swimmer 1: 3 - 4, -16 - 2; swimmer 2: 8 - 8; swimmer 3: 20 - 2
    long[][] due = {{1, 2}, {-19, 2}, {0, 1}, {18, 1}, {LONG_NOT, LONG_NOT}};
    for (int swimmer = 0; swimmer < due.length; swimmer++) {
      due("own(" + swimmer + ", 0)", x.own(swimmer, 0), due[swimmer][0]);
      due("own(" + swimmer + ", 1)", x.own(swimmer, 1), due[swimmer][1]);
    }
    due("own(23, 0)", x.own(23, 0), LONG_NOT);
    due("own", x.own(24, 0), LONG_BAD);
    due("own", x.own(-1, 0), LONG_BAD);
    due("own", x.own(0, 2), LONG_BAD);
    due("own", x.own(23, -1), LONG_BAD);
    due("own", x.own(LEAST, 0), LONG_BAD);
    due("own", x.own(MOST, 0), LONG_BAD);
  }

  private static void fast() {
    promise = 15;
    LaneFour full = fullMeet();
    int bits = 0;
    for (int swimmer = 0; swimmer < 24; swimmer++) {
      long above = full.own(swimmer, 0);
      if (above != LONG_NOT && above <= -2 * full.own(swimmer, 1)) {
        bits |= 1 << swimmer;
      }
    }
    due("fast(2) of a full meet", full.fast(2), bits);
    due("there are some, and not all", bits != 0 && bits != (1 << 24) - 1 ? 1 : 0, 1);
    LaneFour x = fourLanes();
    due("fast(0)", x.fast(0), 1 << 1 | 1 << 2);
    due("fast(1)", x.fast(1), 1 << 1);
    due("fast(9)", x.fast(9), 1 << 1);
    due("fast(10)", x.fast(10), 0);
    due("fast(9999)", x.fast(9999), 0);
    due("fast(-1)", x.fast(-1), BAD);
    due("fast(10000)", x.fast(10000), BAD);
    due("fast", x.fast(LEAST), BAD);
    due("fast", x.fast(MOST), BAD);
    LaneFour y = new LaneFour();
    raceOf(y, 2, 0, row(23, 4, 100, 106));
    raceOf(y, 2, 0, row(0, 4, 106, 100));
    due("fast(0)", y.fast(0), 1 << 23);
    due("just so much", y.fast(6), 1 << 23);
    due("too much", y.fast(7), 0);
    y.time(0, 0, 118);
    due("the other one", y.fast(3), 1);
  }

  private static void twice() {
    promise = 16;
    LaneFour x = new LaneFour();
    raceOf(x, 1, 0, row(0, 0, 100), row(1, 1, 100), row(2, 2, -1));
    raceOf(x, 1, 1, row(0, 1, 101), row(1, 0, 99), row(2, 4, 100));
    raceOf(x, 1, 2, row(0, 0, 102), row(1, 1, 99), row(2, 5, 100));
    raceOf(x, 2, 2, row(0, 1, 1, 1), row(2, 4, 99, 1));
    // swimmer 0: lane 0 with 100 and 102, lane 1 with 101; swimmer 1: 99 in lane 0, 100 and 99 in lane 1
    due("twice(0, 1)", x.twice(0, 1), 2);
    due("twice(1, 0)", x.twice(1, 0), 1);
    due("like times", x.twice(4, 5), 0);
    due("like times", x.twice(5, 4), 0);
    due("not felt", x.twice(2, 4), 0);
    due("not felt", x.twice(4, 2), 0);
    x.time(2, 0, 1);
    due("felt now", x.twice(2, 4), 1);
    due("felt now", x.twice(2, 5), 1);
    due("felt now", x.twice(5, 2), 0);
    x.time(0, 0, 9999);
    due("the first swim is the slower one", x.twice(1, 0), 2);
    due("the first swim is the slower one", x.twice(0, 1), 1);
    due("itself", x.twice(3, 3), BAD);
    int[][] bad = {{0, 8}, {8, 0}, {-1, 0}, {0, -1}, {MOST, 0}, {0, LEAST}};
    for (int[] b : bad) {
      due("twice(bad)", x.twice(b[0], b[1]), BAD);
    }
  }

  private static void orderIs(LaneFour x, int pairs, int... lanes) {
    due("order(NONE)", x.order(NONE), pairs);
    for (int i = 0; i < 8; i++) {
      due("order(" + i + ")", x.order(i), lanes[i]);
    }
  }

  private static void orders() {
    promise = 17;
    LaneFour x = new LaneFour();
    orderIs(x, 0, 0, 1, 2, 3, 4, 5, 6, 7);
    // lane 7 over 3 twice, 3 over 7 once; 5 over 0 once
    raceOf(x, 1, 0, row(0, 7, 100), row(1, 3, 101), row(3, 5, 100));
    raceOf(x, 1, 1, row(0, 3, 101), row(1, 7, 100), row(3, 0, 101));
    raceOf(x, 1, 2, row(2, 3, 100));
    raceOf(x, 1, 3, row(2, 7, 101));
    orderIs(x, 3, 1, 2, 4, 5, 0, 6, 7, 3);
    // a ring of lanes 0, 1, 2, each over the next once: any two of three, so the least row
    LaneFour ring = new LaneFour();
    raceOf(ring, 1, 0, row(0, 0, 100), row(1, 1, 100), row(2, 2, 100));
    raceOf(ring, 1, 1, row(0, 1, 101), row(1, 2, 101), row(2, 0, 101));
    orderIs(ring, 2, 0, 1, 2, 3, 4, 5, 6, 7);
    LaneFour ahead = new LaneFour();
    raceOf(ahead, 1, 0, row(0, 0, 100));
    raceOf(ahead, 1, 0, row(0, 5, 101));
    orderIs(ahead, 1, 0, 1, 2, 3, 4, 5, 6, 7);
    // all turned round: seven lanes each over that before it
    LaneFour turned = new LaneFour();
    for (int lane = 1; lane < 8; lane++) {
      raceOf(turned, 1, 0, row(lane, lane, 100));
      raceOf(turned, 1, 0, row(lane, lane - 1, 101));
    }
    orderIs(turned, 7, 7, 6, 5, 4, 3, 2, 1, 0);
    due("order(8)", x.order(8), BAD);
    due("order(-2)", x.order(-2), BAD);
    due("order", x.order(MOST), BAD);
    due("order", x.order(LEAST), BAD);
  }

  /** SHAPE of lanes 0, 1, 2 is -10, 0, 16; the mean is 2: -12, -2, 14 more, half of it is put right. */
  private static LaneFour podium() {
    LaneFour x = new LaneFour();
    raceOf(x, 2, 0, row(0, 0, 90, 100), row(1, 1, 100, 100), row(2, 2, 116, 100));
    raceOf(x, 1, 0, row(0, 0, 1000), row(1, 1, 1001), row(2, 2, 1010), row(3, 3, 1003), row(4, 4, 1005),
        row(5, 5, -1));
    return x;
  }

  private static void rights() {
    promise = 18;
    LaneFour x = podium();
    int[] due = {1006, 1002, 1003, 1003, 1005};
    for (int i = 0; i < 5; i++) {
      due("right(" + (3 + i) + ", 0)", x.right(3 + i, 0), due[i]);
      due("right(" + (3 + i) + ", 1)", x.right(3 + i, 1), 1);
    }
    due("not felt", x.right(8, 0), LONG_NOT);
    due("more lengths", x.right(0, 0), LONG_NOT);
    due("bad ahead of not", x.right(0, 2), LONG_BAD);
    due("right", x.right(3, -1), LONG_BAD);
    due("right", x.right(9, 0), LONG_BAD);
    due("right", x.right(-1, 0), LONG_BAD);
    due("right", x.right(LEAST, 0), LONG_BAD);
    // the SHAPE, not the DIFFS: 5 and 0 are joined to 5/2, with 7 the mean is 4
    LaneFour y = new LaneFour();
    raceOf(y, 2, 0, row(0, 0, 105, 100), row(1, 1, 100, 100), row(2, 7, 107, 100));
    raceOf(y, 1, 0, row(0, 0, 1000), row(1, 1, 1000), row(2, 7, 1000));
    due("right", y.right(3, 0), 4003);
    due("right", y.right(3, 1), 4);
    due("right", y.right(4, 0), 4003);
    due("right", y.right(5, 0), 1997);
    due("right", y.right(5, 1), 2);
    LaneFour z = new LaneFour();
    raceOf(z, 1, 0, row(0, 0, 77));
    due("without any DIFF", z.right(0, 0), 77);
    due("without any DIFF", z.right(0, 1), 1);
  }

  private static void places() {
    promise = 19;
    LaneFour x = podium();
    int[] byTime = {1, 2, 5, 3, 4};
    int[] byRight = {5, 1, 2, 2, 4};
    for (int i = 0; i < 5; i++) {
      due("place(" + (3 + i) + ", 0)", x.place(3 + i, 0), byTime[i]);
      due("place(" + (3 + i) + ", 1)", x.place(3 + i, 1), byRight[i]);
    }
    LaneFour y = new LaneFour();
    raceOf(y, 1, 0, row(0, 0, 10), row(1, 1, 11), row(2, 2, 11));
    due("behind the first swim", y.place(1, 0), 2);
    due("like ones", y.place(2, 1), 2);
    raceOf(x, 1, 0, row(6, 6, 1));
    due("of its own race", x.place(3, 0), 1);
    due("of its own race", x.place(9, 1), 1);
    due("not felt", x.place(8, 0), NOT);
    due("more lengths", x.place(0, 1), NOT);
    due("bad ahead of not", x.place(0, 2), BAD);
    due("place", x.place(3, -1), BAD);
    due("place", x.place(10, 0), BAD);
    due("place", x.place(-1, 0), BAD);
    due("place", x.place(MOST, 0), BAD);
  }

  private static void medals() {
    promise = 20;
    LaneFour x = podium();
    // by TIME lanes 0, 1, 3; put RIGHT lanes 1, 2, 3
    due("medals(1)", x.medals(1), 2);
    due("medals(0)", x.medals(0), NOT);
    due("medals(2)", x.medals(2), BAD);
    due("medals(-1)", x.medals(-1), BAD);
    due("medals", x.medals(MOST), BAD);
    due("medals", x.medals(LEAST), BAD);
    raceOf(x, 1, 0, row(0, 0, 1000), row(1, 1, 1001), row(2, 2, 1010));
    due("of three all have one", x.medals(2), 0);
    raceOf(x, 1, 0);
    due("of none", x.medals(3), 0);
    // two like ones on place 3 by TIME, and one alone put RIGHT
    raceOf(x, 1, 0, row(3, 3, 900), row(4, 4, 901), row(1, 1, 1000), row(2, 2, 1000));
    due("like ones", x.medals(4), 1);
    // the first swim loses its medal to the last one
    LaneFour y = new LaneFour();
    raceOf(y, 1, 0, row(0, 0, 1001), row(1, 1, 900), row(2, 2, 900), row(3, 3, 1002));
    raceOf(y, 2, 0, row(0, 0, 100, 120), row(3, 3, 100, 100));
    due("the first swim's", y.medals(0), 2);
  }

  private static void typing() {
    promise = 21;
    LaneFour x = new LaneFour();
    for (int n = 1; n <= 8; n++) {
      due("type(0, ..)", x.type(0, n == 1 ? 0 : 255), n);
    }
    due("type(0, ..) more", x.type(0, 48), FULL);
    due("type(0, ..) more, bad", x.type(0, 256), BAD);
    for (int n = 1; n <= 60; n++) {
      due("type(1, ..)", x.type(1, 59), n);
    }
    due("type(1, ..) more", x.type(1, 48), FULL);
    int[][] bad = {{2, 0}, {-1, 0}, {0, -1}, {1, 256}, {MOST, 0}, {LEAST, 0}, {1, MOST}, {1, LEAST}};
    for (int[] b : bad) {
      due("type(bad)", x.type(b[0], b[1]), BAD);
    }
    due("count(5)", x.count(5), 8);
    due("count(6)", x.count(6), 60);
  }

  private static void wiping() {
    promise = 22;
    LaneFour x = new LaneFour();
    due("wipe(0)", x.wipe(0), 0);
    text(x, 0, "012");
    text(x, 1, "f=12");
    due("wipe(0)", x.wipe(0), 3);
    due("count(5)", x.count(5), 0);
    due("count(6)", x.count(6), 4);
    due("wipe(0)", x.wipe(0), 0);
    due("wipe(1)", x.wipe(1), 4);
    due("world(8)", x.world(8), 0);
    due("type again", x.type(1, 'f'), 1);
    due("wipe(2)", x.wipe(2), BAD);
    due("wipe(-1)", x.wipe(-1), BAD);
    due("wipe", x.wipe(LEAST), BAD);
    due("it stays", x.count(6), 1);
  }

  private static void faultsOfTheRule() {
    promise = 23;
    LaneFour x = new LaneFour();
    String[] texts = {"", "0", "7", "8", "/", "01234567", "76543210", "01234566", "00", "0123456", "0123456:",
        "30x", "a", "01234567", "12345670"};
    int[] due = {0, 1, 1, 0, 0, NONE, NONE, 7, 1, 7, 7, 2, 0, NONE, NONE};
    for (int i = 0; i < texts.length; i++) {
      text(x, 0, texts[i]);
      due("fault(0) of " + texts[i], x.fault(0), due[i]);
    }
    due("fault(2)", x.fault(2), BAD);
    due("fault(-1)", x.fault(-1), BAD);
    due("fault", x.fault(MOST), BAD);
    due("fault", x.fault(LEAST), BAD);
    x.wipe(0);
    x.type(0, 255);
    due("fault(0) of byte 255", x.fault(0), 0);
  }

  private static void faultsOfAWorld() {
    LaneFour x = new LaneFour();
    String[] texts = {"", "p", "p0", "p0=", "p0=-", "p0=1", "p0=-1", "p0=12", "p0=-12", "p0=123", "p0=-123",
        "p0=--1", "p8=1", "p7=1", "p=1", "p01=1", "f", "f=", "f=1", "f=12", "f=123", "f=-1", "f0=1", "r=", "r=1",
        "r=12", "r=-1", "r", ";", "f=1;", "f=1;;", "f=1;p", "f=1;f=2;r=3;p3=-0", "x", "p0=1x", "p0=12x", "p0=1-",
        "f=1 ;r=2", "P0=1", "p0=:", "p0=/", "f=1;r=2p", "p/=1"};
    int[] due = {NONE, 1, 2, 3, 4, NONE, NONE, NONE, NONE, 5, 6,
        4, 1, NONE, 1, 2, 1, 2, NONE, NONE, 4, 2, 1, 2, NONE,
        3, 2, 1, 0, 4, 4, 5, NONE, 0, 4, 5, 4,
        3, 0, 3, 3, 7, 1};
    for (int i = 0; i < texts.length; i++) {
      text(x, 1, texts[i]);
      due("fault(1) of " + texts[i], x.fault(1), due[i]);
    }
    StringBuilder longest = new StringBuilder();
    for (int i = 0; i < 12; i++) {
      longest.append("p1=1;");
    }
    text(x, 1, longest.toString());
    due("fault(1) at its end", x.fault(1), 60);
    text(x, 1, longest.substring(0, 55) + "p1=12");
    due("fault(1) of 60 bytes", x.fault(1), NONE);
  }

  private static void given() {
    promise = 24;
    LaneFour x = new LaneFour();
    raceOf(x, 1, 0, row(5, 3), row(2, 4), row(9, 2));
    raceOf(x, 1, 0);
    due("without a rule", x.given(0), NOT);
    due("without a rule, bad", x.given(2), BAD);
    text(x, 0, "34256170");
    due("by numbers", x.given(0), 0);
    due("of none", x.given(1), 1);
    x.seeds(5, 2999);
    due("by seeds, then numbers", x.given(0), 1);
    x.seeds(9, 2999);
    due("second is 9 now", x.given(0), 0);
    x.seeds(9, 3000);
    x.seeds(2, 9999);
    due("the last one is 2 now", x.given(0), 0);
    text(x, 0, "32456170");
    due("by another rule", x.given(0), 1);
    text(x, 0, "3245617");
    due("with a fault", x.given(0), NOT);
    text(x, 0, "32456177");
    due("with a fault", x.given(0), NOT);
    due("given(-1)", x.given(-1), BAD);
    due("given", x.given(MOST), BAD);
    due("given", x.given(LEAST), BAD);
    LaneFour z = new LaneFour();
    raceOf(z, 1, 0, row(0, 0), row(1, 7));
    text(z, 0, "67543210");
    due("the first swim is not so", z.given(0), 0);
    LaneFour y = new LaneFour();
    text(y, 0, "76543210");
    int race = y.race(4, 0);
    for (int i = 0; i < 8; i++) {
      y.swim(race, 23 - i, i);
    }
    due("all eight", y.given(0), 1);
    y.seeds(23, 1);
    due("all eight, not so", y.given(0), 0);
  }

  private static void tenths() {
    promise = 25;
    LaneFour x = new LaneFour();
    due("of nothing", x.tenths(NONE, 0), 0);
    due("of nothing", x.tenths(NONE, 1), 0);
    due("of nothing", x.tenths(NONE, 2), 1000000);
    raceOf(x, 4, 0, row(0, 0, 10, 11, -1, 9990), row(1, 1, 1, 100, 101, -1));
    raceOf(x, 1, 0, row(0, 0, 20));
    raceOf(x, 1, 0, row(0, 0, 21));
    raceOf(x, 1, 0, row(0, 0));
    due("tenths(0, 0)", x.tenths(0, 0), 6);
    due("tenths(0, 1)", x.tenths(0, 1), 3);
    // 6 of 6: 1, 5: 54, 4: 1215, 3: 14580 of a million
    due("tenths(0, 2)", x.tenths(0, 2), 15850);
    due("tenths(1, 2)", x.tenths(1, 2), 100000);
    due("tenths(2, 2)", x.tenths(2, 2), 1000000);
    due("tenths(3, 0)", x.tenths(3, 0), 0);
    due("tenths(3, 2)", x.tenths(3, 2), 1000000);
    due("tenths(NONE, 0)", x.tenths(NONE, 0), 8);
    due("tenths(NONE, 1)", x.tenths(NONE, 1), 4);
    // 70 * 6561 + 56 * 729 + 28 * 81 + 8 * 9 + 1 = 502435 of 10 to the 8, cut
    due("tenths(NONE, 2)", x.tenths(NONE, 2), 5024);
    int[][] bad = {{4, 0}, {-2, 0}, {0, 3}, {0, -1}, {NONE, 3}, {MOST, 0}, {LEAST, 0}, {0, LEAST}};
    for (int[] b : bad) {
      due("tenths(bad)", x.tenths(b[0], b[1]), BAD);
    }
    LaneFour y = new LaneFour();
    int race = y.race(4, 0);
    for (int lane = 0; lane < 5; lane++) {
      int swim = y.swim(race, lane, lane);
      for (int k = 0; k < 4 && 4 * lane + k < 18; k++) {
        y.time(swim, k, 1001);
      }
    }
    due("18 times", y.tenths(0, 0), 18);
    due("18 times, none", y.tenths(0, 2), 1000000);
    y.time(0, 0, 1000);
    // all but 9 to the 18 of 10 to the 18: 1 - 0.15009463529..
    due("18 times, one", y.tenths(0, 2), 849905);
    for (int lane = 0; lane < 5; lane++) {
      for (int k = 0; k < 4 && 4 * lane + k < 18; k++) {
        y.time(lane, k, 1000);
      }
    }
    due("18 times, all", y.tenths(NONE, 2), 0);
    y.time(4, 2, 1);
    due("19 times", y.tenths(0, 2), FULL);
    due("19 times", y.tenths(NONE, 2), FULL);
    due("19 times", y.tenths(0, 1), 18);
    due("19 times", y.tenths(0, 0), 19);
  }

  private static void worldIs(LaneFour x, String text, int... values) {
    text(x, 1, text);
    for (int what = 0; what < 10; what++) {
      due("world(" + what + ") of " + text, x.world(what), values[what]);
    }
  }

  private static void worlds() {
    promise = 26;
    LaneFour x = new LaneFour();
    worldIs(x, "", 0, 0, 0, 0, 0, 0, 0, 0, 0, 0);
    worldIs(x, "p0=-99;p1=9;p7=99;f=7;r=9", -99, 9, 0, 0, 0, 0, 0, 99, 7, 9);
    worldIs(x, "p3=-07;f=00;f=08", 0, 0, 0, -7, 0, 0, 0, 0, 8, 0);
    worldIs(x, "p3=12;p3=-0;r=5;r=0", 0, 0, 0, 0, 0, 0, 0, 0, 0, 0);
    worldIs(x, "p3=-12;p4=34", 0, 0, 0, -12, 34, 0, 0, 0, 0, 0);
    worldIs(x, "p3=12;f=9;r=4;", 0, 0, 0, 0, 0, 0, 0, 0, 0, 0);
    worldIs(x, "p3=12;f=999", 0, 0, 0, 0, 0, 0, 0, 0, 0, 0);
    due("world(10)", x.world(10), -5000);
    due("world(-1)", x.world(-1), -5000);
    due("world", x.world(MOST), -5000);
    due("world", x.world(LEAST), -5000);
  }

  private static void made() {
    promise = 27;
    LaneFour x = new LaneFour();
    text(x, 1, "p0=5;p1=-6;f=10");
    x.seeds(21, 2000);
    x.seeds(22, 9999);
    x.seeds(23, 1);
    due("made", x.made(4, 9, 20, 4, 1), 0);
    int[][] times = {{3005, 3005, 3025, 3025}, {1994, 2016, 2014, 2036}, {9999, 9999, 9999, 9999}, {1, 11, 21, 31}};
    for (int swim = 0; swim < 4; swim++) {
      due("race", x.about(swim, 0), 0);
      due("swimmer", x.about(swim, 1), 20 + swim);
      due("lane", x.about(swim, 2), swim);
      due("day", x.about(swim, 3), 9);
      for (int k = 0; k < 4; k++) {
        due("time of " + swim + ", " + k, x.time(swim, k, times[swim][k]), times[swim][k]);
      }
    }
    text(x, 0, "10765432");
    due("made by the rule", x.made(1, 0, 20, 4, 1), 1);
    // 23, 21, 20, 22 by seeds
    int[] lanes = {7, 0, 6, 1};
    int[] single = {3000, 2005, 9999, 1};
    for (int i = 0; i < 4; i++) {
      due("lane", x.about(4 + i, 2), lanes[i]);
      due("time", x.about(4 + i, 6), single[i]);
    }
    due("given", x.given(1), 1);
    madeByLots();
    madeBad();
  }

  private static void madeByLots() {
    LaneFour x = new LaneFour();
    text(x, 1, "r=9");
    due("made", x.made(2, 0, 0, 8, -123456789), 0);
    int seed = -123456789;
    for (int swim = 0; swim < 8; swim++) {
      for (int k = 0; k < 2; k++) {
        seed = 1103515245 * seed + 12345;
        int lot = ((seed >> 16) & 65535) % 19;
        due("time by lot", x.time(swim, k, 1), 3000 + lot - 9);
      }
    }
    // seed 0 becomes 12345, whose upper half is 0; then -740551042, whose upper half is 54236
    LaneFour y = new LaneFour();
    text(y, 1, "r=1");
    y.made(2, 0, 3, 1, 0);
    due("first lot", y.time(0, 0, 1), 2999);
    due("second lot", y.time(0, 1, 1), 2999 + 54236 % 3);
  }

  private static void madeBad() {
    LaneFour x = new LaneFour();
    int[][] bad = {{0, 0, 0, 1}, {5, 0, 0, 1}, {1, -1, 0, 1}, {1, 10, 0, 1}, {1, 0, -1, 1}, {1, 0, 24, 1},
        {1, 0, 0, 0}, {1, 0, 5, 0}, {1, 0, 0, 9}, {1, 0, 23, 2}, {1, 0, 17, 8}, {1, 0, 0, -1}, {1, 0, MOST, 8}, {1, 0, 0, MOST},
        {1, 0, LEAST, 1}, {1, 0, 23, LEAST}, {LEAST, 0, 0, 1}, {1, MOST, 0, 1}};
    for (int[] b : bad) {
      due("made(bad)", x.made(b[0], b[1], b[2], b[3], 7), BAD);
    }
    due("count(0)", x.count(0), 0);
    due("count(1)", x.count(1), 0);
    for (int i = 0; i < 7; i++) {
      due("made", x.made(1, 0, 16, 8, 7), i);
    }
    due("made", x.made(1, 0, 23, 1, 7), 7);
    due("no room for 8 swims", x.made(1, 0, 0, 8, 7), FULL);
    due("bad ahead of full", x.made(1, 0, 0, 9, 7), BAD);
    due("count(0)", x.count(0), 8);
    due("room for 7", x.made(1, 0, 0, 7, 7), 8);
    due("no room for one", x.made(1, 0, 0, 1, 7), FULL);
    LaneFour y = new LaneFour();
    for (int i = 0; i < 16; i++) {
      y.race(1, 0);
    }
    due("no room for a race", y.made(1, 0, 0, 1, 7), FULL);
    due("count(1)", y.count(1), 0);
  }

  private static void sheets() {
    promise = 28;
    LaneFour x = new LaneFour();
    due("sheet", x.sheet(0, 0, 0), 0);
    due("sheet", x.sheet(3, 2, 48), 48);
    due("its last item", x.put(3, 2, 47, 9), 1);
    due("below 0", x.sheet(3, 2, -1), SIZE);
    due("count(8)", x.count(8), 5);
    due("below 0", x.sheet(3, 2, LEAST), SIZE);
    due("it stays", x.get(3, 2, 47), 9);
    x.put(3, 2, 0, 9);
    due("a new one", x.sheet(3, 2, 48), 48);
    due("its items are 0", x.get(3, 2, 0), 0);
    due("its items are 0", x.get(3, 2, 47), 0);
    due("of another type", x.sheet(3, 1, 2), 2);
    due("its type", x.put(3, 2, 0, 1), CAST);
    int[][] bad = {{4, 0, 1}, {-1, 0, 1}, {0, 3, 1}, {0, -1, 1}, {0, 0, 49}, {4, 0, -1}, {0, 3, -1},
        {MOST, 0, 1}, {LEAST, 0, 1}, {0, MOST, 1}, {0, 0, MOST}};
    for (int[] b : bad) {
      due("sheet(bad)", x.sheet(b[0], b[1], b[2]), BAD);
    }
    due("count(8) stays", x.count(8), 3);
  }

  private static void losing() {
    promise = 29;
    LaneFour x = new LaneFour();
    due("lost at first", x.lose(2), NULL);
    due("count(8)", x.count(8), 1);
    x.sheet(2, 1, 7);
    due("lose", x.lose(2), 7);
    due("lost", x.lose(2), NULL);
    due("lost", x.get(2, 1, 0), LEAST);
    x.sheet(2, 1, 0);
    due("lose an empty one", x.lose(2), 0);
    due("lose(4)", x.lose(4), BAD);
    due("lose(-1)", x.lose(-1), BAD);
    due("lose", x.lose(MOST), BAD);
    due("lose", x.lose(LEAST), BAD);
  }

  private static void putting() {
    promise = 30;
    LaneFour x = new LaneFour();
    due("lost", x.put(0, 0, 0, 1), NULL);
    int[] values = {0, 127, 128, 255, 256, -129, 32767, 32768, 65535, 70000, MOST, LEAST};
    int[][] due = {
        {0, 127, -128, -1, 0, 127, -1, 0, -1, 112, -1, 0},
        {0, 127, 128, 255, 256, -129, 32767, -32768, -1, 4464, -1, 0},
        values};
    for (int type = 0; type < 3; type++) {
      x.sheet(type, type, 12);
      for (int i = 0; i < 12; i++) {
        due("put", x.put(type, type, i, values[i]), 1);
      }
      for (int i = 0; i < 12; i++) {
        due("get of type " + type, x.get(type, type, i), due[type][i]);
      }
    }
    due("index", x.put(0, 0, 12, 1), INDEX);
    due("count(8)", x.count(8), 2);
    due("cast", x.put(0, 1, 0, 1), CAST);
    due("count(8)", x.count(8), 3);
    due("cast ahead of index", x.put(0, 2, -1, 1), CAST);
    due("index", x.put(0, 0, -1, 1), INDEX);
    due("index", x.put(0, 0, MOST, 1), INDEX);
    due("index", x.put(0, 0, LEAST, 1), INDEX);
    due("null ahead of cast", x.put(3, 1, -1, 1), NULL);
    due("count(8)", x.count(8), 1);
    int[][] bad = {{4, 0}, {-1, 0}, {0, 3}, {0, -1}, {3, 3}, {MOST, 0}, {0, LEAST}};
    for (int[] b : bad) {
      due("put(bad)", x.put(b[0], b[1], 0, 1), BAD);
    }
    due("it stays", x.get(0, 0, 0), 0);
  }

  private static void getting() {
    promise = 31;
    LaneFour x = new LaneFour();
    due("lost", x.get(0, 0, 0), LEAST);
    due("count(8)", x.count(8), 1);
    x.sheet(0, 1, 2);
    x.put(0, 1, 1, -7);
    due("get", x.get(0, 1, 1), -7);
    due("get", x.get(0, 1, 0), 0);
    due("index", x.get(0, 1, 2), LEAST);
    due("count(8)", x.count(8), 2);
    due("cast", x.get(0, 0, 2), LEAST);
    due("count(8)", x.count(8), 3);
    due("index", x.get(0, 1, -1), LEAST);
    due("count(8)", x.count(8), 2);
    due("bad", x.get(4, 1, 0), LEAST);
    due("bad", x.get(-1, 1, 0), LEAST);
    due("bad", x.get(1, 3, 0), LEAST);
    due("bad", x.get(1, -1, 0), LEAST);
    due("count(8) stays", x.count(8), 2);
    due("index", x.get(0, 1, MOST), LEAST);
    due("null ahead of cast", x.get(1, 0, MOST), LEAST);
    due("count(8)", x.count(8), 1);
  }

  private static void copying() {
    promise = 32;
    LaneFour x = new LaneFour();
    x.sheet(0, 2, 5);
    x.sheet(1, 2, 3);
    x.sheet(2, 1, 3);
    for (int i = 0; i < 5; i++) {
      x.put(0, 2, i, 10 + i);
    }
    due("copy", x.copy(0, 1, 1, 0, 3), 1);
    itemsAre(x, 1, 11, 12, 13);
    due("onto itself, upward", x.copy(0, 0, 0, 1, 4), 1);
    itemsAre(x, 0, 10, 10, 11, 12, 13);
    due("onto itself, downward", x.copy(0, 2, 0, 1, 3), 1);
    itemsAre(x, 0, 10, 11, 12, 13, 13);
    due("none", x.copy(0, 5, 1, 3, 0), 1);
    int[][] index = {{0, 6, 1, 0, 0}, {0, 0, 1, 4, 0}, {0, -1, 1, 0, 1}, {0, 0, 1, -1, 1}, {0, 0, 1, 0, -1},
        {0, 3, 1, 0, 3}, {0, 0, 1, 1, 3}, {0, MOST, 1, 0, 1}, {0, 1, 1, 0, MOST}, {0, 0, 1, MOST, MOST},
        {0, LEAST, 1, 0, 0}, {0, 0, 1, 0, LEAST}};
    for (int[] c : index) {
      due("copy(index)", x.copy(c[0], c[1], c[2], c[3], c[4]), INDEX);
    }
    due("count(8)", x.count(8), 2);
    due("unlike types", x.copy(0, 0, 2, 0, 1), STORE);
    due("count(8)", x.count(8), 4);
    due("store ahead of index", x.copy(0, -1, 2, 9, 99), STORE);
    due("lost", x.copy(0, 0, 3, 0, 1), NULL);
    due("lost", x.copy(3, 0, 0, 0, 1), NULL);
    due("lost", x.copy(3, -1, 3, 0, 1), NULL);
    due("count(8)", x.count(8), 1);
    int[][] bad = {{4, 0}, {-1, 0}, {0, 4}, {0, -1}, {3, 4}, {MOST, 0}, {0, LEAST}};
    for (int[] b : bad) {
      due("copy(bad)", x.copy(b[0], 0, b[1], 0, 1), BAD);
    }
    itemsAre(x, 0, 10, 11, 12, 13, 13);
    itemsAre(x, 1, 11, 12, 13);
  }

  private static void itemsAre(LaneFour x, int s, int... items) {
    for (int i = 0; i < items.length; i++) {
      due("item " + i + " of sheet " + s, x.get(s, 2, i), items[i]);
    }
  }

  private static void writing() {
    promise = 33;
    LaneFour x = new LaneFour();
    raceOf(x, 3, 0, row(0, 0, 300, -1, 9999));
    due("lost", x.write(0, 0), NULL);
    due("count(8)", x.count(8), 1);
    x.sheet(0, 2, 5);
    x.put(0, 2, 3, 77);
    due("write", x.write(0, 0), 3);
    itemsAre(x, 0, 300, -1, 9999, 77, 0);
    x.sheet(1, 0, 2);
    due("into a shorter one, by bytes", x.write(0, 1), 2);
    due("300 as a byte", x.get(1, 0, 0), 44);
    due("-1 as a byte", x.get(1, 0, 1), -1);
    x.sheet(1, 1, 3);
    due("by shorts", x.write(0, 1), 3);
    due("9999 as a short", x.get(1, 1, 2), 9999);
    x.sheet(1, 1, 0);
    due("into an empty one", x.write(0, 1), 0);
    int[][] bad = {{1, 0}, {-1, 0}, {0, 4}, {0, -1}, {1, 3}, {MOST, 0}, {0, LEAST}};
    for (int[] b : bad) {
      due("write(bad)", x.write(b[0], b[1]), BAD);
    }
    due("times stay", x.time(0, 0, 300), 300);
  }

  private static void counting() {
    promise = 34;
    LaneFour x = podium();
    raceOf(x, 4, 0, row(9, 7, 1, -1, 3, -1));
    text(x, 0, "012");
    text(x, 1, "f=");
    x.lose(0);
    int[] due = {3, 10, 5, 3, 13, 3, 2, 606 + 5019 + 4, 1};
    for (int what = 0; what < 9; what++) {
      due("count(" + what + ")", x.count(what), due[what]);
    }
    due("count(9)", x.count(9), BAD);
    due("count(-1)", x.count(-1), BAD);
    due("count", x.count(MOST), BAD);
    due("count", x.count(LEAST), BAD);
    due("count(8) after bad ones", x.count(8), 1);
    LaneFour y = new LaneFour();
    raceOf(y, 1, 0, row(0, 0, 5));
    due("the first swim is a single", y.count(2), 1);
    due("its time", y.count(7), 5);
  }

  /** The digest by the document's words, from what the calls answer. */
  private static long digestOf(LaneFour x) {
    long h = 17;
    for (int what = 0; what < 8; what++) {
      h = 31 * h + x.count(what);
    }
    for (int lane = 0; lane < 8; lane++) {
      h = 31 * h + x.counts(lane);
      for (int which = 0; which < 3; which++) {
        h = 31 * h + x.lane(lane, which, 0);
        h = 31 * h + x.lane(lane, which, 1);
      }
    }
    h = 31 * h + x.lean(0, 9);
    h = 31 * h + x.chance();
    h = 31 * h + x.ran(0);
    h = 31 * h + x.ran(1);
    for (int place = -1; place < 8; place++) {
      h = 31 * h + x.order(place);
    }
    h = 31 * h + x.fault(0);
    h = 31 * h + x.fault(1);
    int races = x.count(0);
    for (int race = 0; race < races; race++) {
      h = 31 * h + x.tenths(race, 0);
      h = 31 * h + x.tenths(race, 1);
      h = 31 * h + x.given(race);
      h = 31 * h + x.medals(race);
    }
    // by a sheet, as a full meet would need more than 512 calls if times were asked and put back
    int swims = x.count(1);
    x.sheet(3, 2, 4);
    for (int swim = 0; swim < swims; swim++) {
      int lengths = x.write(swim, 3);
      for (int k = 0; k < lengths; k++) {
        h = 31 * h + x.get(3, 2, k);
      }
    }
    for (int what = 0; what < 10; what++) {
      h = 31 * h + x.world(what);
    }
    return h;
  }

  /** As many races and swims as there may be. */
  private static LaneFour fullMeet() {
    LaneFour x = new LaneFour();
    text(x, 0, "43526170");
    text(x, 1, "p0=-9;p1=-8;p2=-9;p3=-3;p4=4;p5=2;p6=20;p7=19;f=3;r=9");
    for (int race = 0; race < 16; race++) {
      due("made", x.made(race % 4 + 1, 9 - race % 10, race % 20, 4, 1000 * race), race);
    }
    due("count(1)", x.count(1), 64);
    return x;
  }

  private static void digests() {
    promise = 35;
    LaneFour full = fullMeet();
    due("digest of a full meet", full.digest(), digestOf(full));
    due("lean of day 9 is told too", full.lean(9, 9) != 0 ? 1 : 0, 1);
    LaneFour[] all = {new LaneFour(), fourLanes(), fourDays(), podium()};
    for (LaneFour x : all) {
      due("digest", x.digest(), digestOf(x));
    }
    LaneFour x = podium();
    text(x, 0, "01234567");
    text(x, 1, "p0=-3;r=7");
    x.made(4, 3, 2, 8, 99);
    long before = x.digest();
    due("digest", before, digestOf(x));
    due("digest again", x.digest(), before);
    x.seeds(23, 5);
    x.sheet(0, 2, 3);
    x.put(0, 2, 0, 5);
    x.lose(1);
    due("digest does not tell sheets, findings or a swimmer who did not swim", x.digest(), before);
    x.race(0, 0);
    x.race(1, 10);
    x.swim(0, 0, 0);
    x.swim(9, 0, 0);
    x.time(0, 9, 5);
    x.time(0, 0, 0);
    x.read(1, 0);
    x.read(0, 99);
    x.seeds(0, 0);
    x.type(0, 48);
    x.type(1, 256);
    x.wipe(2);
    x.made(1, 0, 20, 8, 0);
    unchanged(x, before);
    due("digest of another time", x.time(0, 0, 91) == 90 && x.digest() != before ? 1 : 0, 1);
  }
}
