/**
 * Lane four: races of lengths there and back, and whether water that goes round the pool helped
 * some lanes. The promises that it keeps are those of the document; words in capitals are its terms.
 */
public final class LaneFour {
    public static final int NONE = -1, BAD = -2, NOT = -3, FULL = -4;

    private static final int LANES = 8;
    private static final int SWIMMERS = 24;
    private static final int DAYS = 10;
    private static final int RACES = 16;
    private static final int SWIMS = 64;
    private static final int LENGTHS = 4;
    private static final int SHEETS = 4;
    private static final int ITEMS = 48;
    private static final int TYPES = 3;
    private static final int MOST_HUNDREDTHS = 9999;
    private static final int SEEDS_AT_FIRST = 3000;
    private static final int MEDALS_OF_A_RACE = 3;
    private static final int MILLION = 1000000;
    private static final int FIGURES_OF_A_MILLION = 6;
    private static final int MOST_TIMES_OF_CHANCE = 18;

    private static final int NULL = 1, INDEX = 2, CAST = 3, STORE = 4, SIZE = 5;

    private static final int BAD_TIME = -5;
    private static final int BAD_LEAN = -9999;
    private static final int BAD_WORLD = -5000;
    private static final int BAD_GET = 0x80000000;
    private static final long LEAST_LONG = 0x8000000000000000L;

    private final Meet meet;
    private final Water water;
    private final Singles singles;
    private final Text[] texts;
    private final Rule rule;
    private final World laws;
    private final Maker maker;
    private final Sheet[] sheets;
    private final Fraction fraction;
    private int finding;

    public LaneFour() {
        Meet newMeet = new Meet();
        Levels newShape = new Levels();
        Text ruleText = new Text(LANES);
        Text worldText = new Text(World.MOST_BYTES);
        Rule newRule = new Rule(ruleText);
        World newLaws = new World(worldText);
        meet = newMeet;
        water = new Water(newMeet, newShape);
        singles = new Singles(newMeet, newShape);
        texts = new Text[] {ruleText, worldText};
        rule = newRule;
        laws = newLaws;
        maker = new Maker(newMeet, newRule, newLaws);
        sheets = new Sheet[SHEETS];
        for (int s = 0; s < SHEETS; s++) {
            sheets[s] = new Sheet();
        }
        fraction = new Fraction();
        finding = 0;
    }

    // ---- races, swims

    public int race(int lengths, int day) {
        if (!mayBeRace(lengths, day)) {
            return BAD;
        }
        if (meet.races >= RACES) {
            return FULL;
        }
        return meet.addRace(lengths, day);
    }

    public int swim(int race, int swimmer, int lane) {
        if (!meet.hasRace(race) || !isSwimmer(swimmer) || !isLane(lane)
                || meet.isTaken(race, swimmer, lane)) {
            return BAD;
        }
        if (meet.swims >= SWIMS) {
            return FULL;
        }
        return meet.addSwim(race, swimmer, lane);
    }

    public int time(int swim, int length, int v) {
        if (!meet.hasSwim(swim) || !within(length, 0, meet.lengthsOf(swim) - 1) || !mayBeTime(v)) {
            return BAD_TIME;
        }
        int was = meet.timeOf(swim, length);
        meet.setTime(swim, length, v);
        return was;
    }

    public int read(int s, int swim) {
        if (!isSheet(s) || !meet.hasSwim(swim)) {
            return BAD;
        }
        Sheet from = sheets[s];
        if (from.isLost) {
            return found(NULL);
        }
        int most = Math.min(from.size, meet.lengthsOf(swim));
        int done = 0;
        while (done < most && mayBeTime(from.items[done])) {
            meet.setTime(swim, done, from.items[done]);
            done++;
        }
        return done;
    }

    public int seeds(int swimmer, int v) {
        if (!isSwimmer(swimmer) || !within(v, 1, MOST_HUNDREDTHS)) {
            return BAD;
        }
        int was = meet.said[swimmer];
        meet.said[swimmer] = v;
        return was;
    }

    public int about(int swim, int what) {
        if (!meet.hasSwim(swim)) {
            return BAD;
        }
        int itsRace = meet.raceOf[swim];
        switch (what) {
            case 0: return itsRace;
            case 1: return meet.swimmerOf[swim];
            case 2: return meet.laneOf[swim];
            case 3: return meet.dayOf[itsRace];
            case 4: return meet.lengthsOf(swim);
            case 5: return meet.feltIn(swim);
            case 6: return meet.feltIn(swim) == meet.lengthsOf(swim) ? meet.togetherIn(swim) : NONE;
            default: return BAD;
        }
    }

    // ---- out against home

    public long diff(int swim, int what) {
        if (!meet.hasSwim(swim) || !isPart(what)) {
            return refusal(BAD);
        }
        if (!meet.hasDiff(swim)) {
            return refusal(NOT);
        }
        fraction.set(meet.doubledDiff(swim), 2);
        return fraction.part(what);
    }

    public long lane(int lane, int which, int what) {
        if (!isLane(lane) || !within(which, 0, 2) || !isPart(what)) {
            return refusal(BAD);
        }
        water.survey();
        return ofLane(lane, which, what);
    }

    public int counts(int lane) {
        if (!isLane(lane)) {
            return BAD;
        }
        water.survey();
        return water.plain.counted[lane];
    }

    public int lean(int from, int to) {
        if (!isDay(from) || !isDay(to) || from > to) {
            return BAD_LEAN;
        }
        water.survey();
        water.surveyDays();
        return water.leanOf(from, to);
    }

    public int chance() {
        water.survey();
        return water.chanceOfShape();
    }

    public int ran(int what) {
        if (!isPart(what)) {
            return BAD;
        }
        water.survey();
        water.surveyDays();
        return what == 0 ? water.ranFrom : water.ranTo;
    }

    public long own(int swimmer, int what) {
        if (!isSwimmer(swimmer) || !isPart(what)) {
            return refusal(BAD);
        }
        water.survey();
        if (!water.findOwn(swimmer, fraction)) {
            return refusal(NOT);
        }
        return fraction.part(what);
    }

    public int fast(int by) {
        if (!within(by, 0, MOST_HUNDREDTHS)) {
            return BAD;
        }
        water.survey();
        int bits = 0;
        for (int swimmer = 0; swimmer < SWIMMERS; swimmer++) {
            if (water.findOwn(swimmer, fraction) && fraction.above <= -by * fraction.below) {
                bits |= 1 << swimmer;
            }
        }
        return bits;
    }

    // ---- single lengths

    public int twice(int a, int b) {
        if (!isLane(a) || !isLane(b) || a == b) {
            return BAD;
        }
        singles.survey();
        return singles.wins[a * LANES + b];
    }

    public int order(int place) {
        if (!within(place, NONE, LANES - 1)) {
            return BAD;
        }
        singles.survey();
        singles.arrange();
        return place == NONE ? singles.mostPairs : singles.row[place];
    }

    public long right(int swim, int what) {
        if (!meet.hasSwim(swim) || !isPart(what)) {
            return refusal(BAD);
        }
        if (!meet.isSingle(swim)) {
            return refusal(NOT);
        }
        water.survey();
        singles.putRight();
        fraction.set(singles.rights[swim], singles.rightsBelow);
        return fraction.part(what);
    }

    public int place(int swim, int by) {
        if (!meet.hasSwim(swim) || !isPart(by)) {
            return BAD;
        }
        if (!meet.isSingle(swim)) {
            return NOT;
        }
        water.survey();
        singles.putRight();
        return singles.placeOf(swim, by);
    }

    public int medals(int race) {
        if (!meet.hasRace(race)) {
            return BAD;
        }
        water.survey();
        singles.putRight();
        return singles.changedMedals(race);
    }

    // ---- rules, tenths

    public int type(int text, int b) {
        if (!isText(text) || !within(b, 0, 255)) {
            return BAD;
        }
        if (texts[text].isFull()) {
            return FULL;
        }
        return texts[text].append(b);
    }

    public int wipe(int text) {
        if (!isText(text)) {
            return BAD;
        }
        return texts[text].clear();
    }

    public int fault(int text) {
        if (!isText(text)) {
            return BAD;
        }
        return text == 0 ? rule.faultAt() : laws.parse();
    }

    public int given(int race) {
        if (!meet.hasRace(race)) {
            return BAD;
        }
        return givenOf(race);
    }

    public int tenths(int race, int what) {
        if (race != NONE && !meet.hasRace(race) || !within(what, 0, 2)) {
            return BAD;
        }
        int felt = meet.feltInRace(race);
        if (what == 0) {
            return felt;
        }
        int round = meet.tenthsInRace(race);
        return what == 1 ? round : chanceOfTenths(felt, round);
    }

    // ---- worlds

    public int world(int what) {
        if (!within(what, 0, World.RANGE)) {
            return BAD_WORLD;
        }
        laws.parse();
        return laws.values[what];
    }

    public int made(int lengths, int day, int first, int many, int seed) {
        if (!mayBeRace(lengths, day) || !isSwimmer(first) || !within(many, 1, LANES)
                || !isSwimmer(first + many - 1)) {
            return BAD;
        }
        if (meet.races >= RACES || meet.swims + many > SWIMS) {
            return FULL;
        }
        int number = meet.addRace(lengths, day);
        maker.fill(number, first, many, seed);
        return number;
    }

    // ---- sheets

    public int sheet(int s, int type, int n) {
        if (!isSheet(s) || !isType(type) || n > ITEMS) {
            return BAD;
        }
        if (n < 0) {
            return found(SIZE);
        }
        sheets[s].renew(type, n);
        return n;
    }

    public int lose(int s) {
        if (!isSheet(s)) {
            return BAD;
        }
        if (sheets[s].isLost) {
            return found(NULL);
        }
        sheets[s].isLost = true;
        return sheets[s].size;
    }

    public int put(int s, int type, int i, int v) {
        if (!isSheet(s) || !isType(type)) {
            return BAD;
        }
        int wrong = sheets[s].findingAt(type, i);
        if (wrong != 0) {
            return found(wrong);
        }
        sheets[s].setItem(i, v);
        return 1;
    }

    public int get(int s, int type, int i) {
        if (!isSheet(s) || !isType(type)) {
            return BAD_GET;
        }
        int wrong = sheets[s].findingAt(type, i);
        if (wrong != 0) {
            found(wrong);
            return BAD_GET;
        }
        return sheets[s].items[i];
    }

    public int copy(int s, int i, int t, int j, int n) {
        if (!isSheet(s) || !isSheet(t)) {
            return BAD;
        }
        Sheet from = sheets[s];
        Sheet to = sheets[t];
        if (from.isLost || to.isLost) {
            return found(NULL);
        }
        if (from.kind != to.kind) {
            return found(STORE);
        }
        if (!from.hasItems(i, n) || !to.hasItems(j, n)) {
            return found(INDEX);
        }
        System.arraycopy(from.items, i, to.items, j, n);
        return 1;
    }

    public int write(int swim, int s) {
        if (!meet.hasSwim(swim) || !isSheet(s)) {
            return BAD;
        }
        Sheet to = sheets[s];
        if (to.isLost) {
            return found(NULL);
        }
        int many = Math.min(to.size, meet.lengthsOf(swim));
        for (int i = 0; i < many; i++) {
            to.setItem(i, meet.timeOf(swim, i));
        }
        return many;
    }

    public int count(int what) {
        switch (what) {
            case 0: return meet.races;
            case 1: return meet.swims;
            case 2: return meet.singlesInAll();
            case 3: return meet.diffsInAll();
            case 4: return meet.feltInRace(NONE);
            case 5: return texts[0].size;
            case 6: return texts[1].size;
            case 7: return meet.togetherInAll();
            case 8: return finding;
            default: return BAD;
        }
    }

    public long digest() {
        water.survey();
        water.surveyDays();
        singles.survey();
        singles.arrange();
        singles.putRight();
        long h = 17;
        for (int what = 0; what <= 7; what++) {
            h = mix(h, count(what));
        }
        h = mixLanes(h);
        h = mixDays(h);
        h = mixOrder(h);
        h = mix(h, rule.faultAt());
        h = mix(h, laws.parse());
        h = mixRaces(h);
        h = mixSwims(h);
        for (int what = 0; what <= World.RANGE; what++) {
            h = mix(h, laws.values[what]);
        }
        return h;
    }

    // ---- what the digest takes in

    private static long mix(long h, long v) {
        return 31 * h + v;
    }

    private long mixLanes(long start) {
        long h = start;
        for (int lane = 0; lane < LANES; lane++) {
            h = mix(h, water.plain.counted[lane]);
            for (int which = 0; which <= 2; which++) {
                h = mix(h, ofLane(lane, which, 0));
                h = mix(h, ofLane(lane, which, 1));
            }
        }
        return h;
    }

    private long mixDays(long start) {
        long h = mix(start, water.leanOf(0, DAYS - 1));
        h = mix(h, water.chanceOfShape());
        h = mix(h, water.ranFrom);
        return mix(h, water.ranTo);
    }

    private long mixOrder(long start) {
        long h = mix(start, singles.mostPairs);
        for (int i = 0; i < LANES; i++) {
            h = mix(h, singles.row[i]);
        }
        return h;
    }

    private long mixRaces(long start) {
        long h = start;
        for (int race = 0; race < meet.races; race++) {
            h = mix(h, meet.feltInRace(race));
            h = mix(h, meet.tenthsInRace(race));
            h = mix(h, givenOf(race));
            h = mix(h, singles.changedMedals(race));
        }
        return h;
    }

    private long mixSwims(long start) {
        long h = start;
        for (int swim = 0; swim < meet.swims; swim++) {
            for (int length = 0; length < meet.lengthsOf(swim); length++) {
                h = mix(h, meet.timeOf(swim, length));
            }
        }
        return h;
    }

    // ---- answers that a call and the digest share

    private long ofLane(int lane, int which, int what) {
        if (water.plain.counted[lane] == 0) {
            return refusal(NOT);
        }
        Levels levels = which == 2 ? water.shape : water.plain;
        if (which == 1) {
            fraction.set(levels.aboveMean(lane), 2 * levels.scale * levels.present);
        } else {
            fraction.set(levels.scaled[lane], 2 * levels.scale);
        }
        return fraction.part(what);
    }

    private int givenOf(int race) {
        if (rule.faultAt() != NONE) {
            return NOT;
        }
        return rule.isKeptBy(meet, race) ? 1 : 0;
    }

    /** Counted in cases out of 10 to the n, which fit into a long up to 18 times. */
    private static int chanceOfTenths(int n, int least) {
        if (n > MOST_TIMES_OF_CHANCE) {
            return FULL;
        }
        long cases = 0;
        long ways = 1;
        for (int k = 0; k <= n; k++) {
            if (k >= least) {
                cases += ways * power(9, n - k);
            }
            ways = ways * (n - k) / (k + 1);
        }
        // one of both does nothing: the cases are out of 10 to the n, the answer is out of a million
        cases *= power(10, FIGURES_OF_A_MILLION - n);
        for (int i = FIGURES_OF_A_MILLION; i < n; i++) {
            cases /= 10;
        }
        return (int) cases;
    }

    private static long power(long base, int times) {
        long product = 1;
        for (int i = 0; i < times; i++) {
            product *= base;
        }
        return product;
    }

    // ---- tests of arguments, and refusals

    private static boolean within(int v, int least, int most) {
        return v >= least && v <= most;
    }

    private static boolean isLane(int v) {
        return within(v, 0, LANES - 1);
    }

    private static boolean isSwimmer(int v) {
        return within(v, 0, SWIMMERS - 1);
    }

    private static boolean isDay(int v) {
        return within(v, 0, DAYS - 1);
    }

    private static boolean isSheet(int v) {
        return within(v, 0, SHEETS - 1);
    }

    private static boolean isType(int v) {
        return within(v, 0, TYPES - 1);
    }

    private static boolean isText(int v) {
        return within(v, 0, 1);
    }

    private static boolean isPart(int v) {
        return within(v, 0, 1);
    }

    private static boolean mayBeRace(int lengths, int day) {
        return within(lengths, 1, LENGTHS) && isDay(day);
    }

    private static boolean mayBeTime(int v) {
        return v == NONE || within(v, 1, MOST_HUNDREDTHS);
    }

    private static long refusal(int answer) {
        return LEAST_LONG - answer;
    }

    private int found(int number) {
        finding = number;
        return -10 - number;
    }

    /** A number as one number above another one, in lowest terms. */
    private static final class Fraction {
        private long above;
        private long below;

        Fraction() {
            above = 0;
            below = 1;
        }

        void set(long newAbove, long newBelow) {
            long common = commonPart(Math.abs(newAbove), newBelow);
            if (common > 0) {
                above = newAbove / common;
                below = newBelow / common;
            }
        }

        long part(int what) {
            return what == 0 ? above : below;
        }

        static long commonMultiple(long a, long b) {
            long common = commonPart(a, b);
            return common > 0 ? a / common * b : 0;
        }

        /** The bound is above what longs can need: two steps of it at least halve a number. */
        static long commonPart(long a, long b) {
            long greater = a;
            long lesser = b;
            for (int step = 0; step < 130 && lesser != 0; step++) {
                long rest = greater % lesser;
                greater = lesser;
                lesser = rest;
            }
            return greater;
        }
    }

    /** Races, swims with their times, and what swimmers are said to swim. */
    private static final class Meet {
        private int races;
        private int swims;
        private final int[] lengths;
        private final int[] dayOf;
        private final int[] raceOf;
        private final int[] swimmerOf;
        private final int[] laneOf;
        private final int[] times;
        private final int[] said;

        Meet() {
            races = 0;
            swims = 0;
            lengths = new int[RACES];
            dayOf = new int[RACES];
            raceOf = new int[SWIMS];
            swimmerOf = new int[SWIMS];
            laneOf = new int[SWIMS];
            times = new int[SWIMS * LENGTHS];
            said = new int[SWIMMERS];
            for (int i = 0; i < SWIMS * LENGTHS; i++) {
                times[i] = NONE;
            }
            for (int swimmer = 0; swimmer < SWIMMERS; swimmer++) {
                said[swimmer] = SEEDS_AT_FIRST;
            }
        }

        boolean hasRace(int r) {
            return r >= 0 && r < races;
        }

        boolean hasSwim(int s) {
            return s >= 0 && s < swims;
        }

        boolean isTaken(int r, int swimmer, int lane) {
            for (int s = 0; s < swims; s++) {
                if (raceOf[s] == r && (swimmerOf[s] == swimmer || laneOf[s] == lane)) {
                    return true;
                }
            }
            return false;
        }

        int addRace(int itsLengths, int itsDay) {
            if (races >= RACES) {
                return FULL;
            }
            lengths[races] = itsLengths;
            dayOf[races] = itsDay;
            races++;
            return races - 1;
        }

        int addSwim(int r, int swimmer, int lane) {
            if (swims >= SWIMS) {
                return FULL;
            }
            raceOf[swims] = r;
            swimmerOf[swims] = swimmer;
            laneOf[swims] = lane;
            swims++;
            return swims - 1;
        }

        int lengthsOf(int s) {
            return lengths[raceOf[s]];
        }

        int timeOf(int s, int length) {
            return times[s * LENGTHS + length];
        }

        void setTime(int s, int length, int v) {
            times[s * LENGTHS + length] = v;
        }

        /** Times of lengths that a race does not have stay unfelt, so all four may be looked at. */
        int feltIn(int s) {
            int felt = 0;
            for (int length = 0; length < LENGTHS; length++) {
                if (timeOf(s, length) != NONE) {
                    felt++;
                }
            }
            return felt;
        }

        int togetherIn(int s) {
            int sum = 0;
            for (int length = 0; length < LENGTHS; length++) {
                if (timeOf(s, length) != NONE) {
                    sum += timeOf(s, length);
                }
            }
            return sum;
        }

        int togetherInAll() {
            int sum = 0;
            for (int s = 0; s < swims; s++) {
                sum += togetherIn(s);
            }
            return sum;
        }

        /** Twice the mean, which is whole, as there are two times at most; 0 if none was felt. */
        int doubledMean(int s, int first) {
            int sooner = timeOf(s, first);
            int later = timeOf(s, first + 2);
            if (sooner == NONE && later == NONE) {
                return 0;
            }
            if (sooner == NONE) {
                return 2 * later;
            }
            return later == NONE ? 2 * sooner : sooner + later;
        }

        boolean hasDiff(int s) {
            return doubledMean(s, 0) > 0 && doubledMean(s, 1) > 0;
        }

        int doubledDiff(int s) {
            return doubledMean(s, 0) - doubledMean(s, 1);
        }

        int diffsInAll() {
            int many = 0;
            for (int s = 0; s < swims; s++) {
                if (hasDiff(s)) {
                    many++;
                }
            }
            return many;
        }

        boolean isSingle(int s) {
            return lengthsOf(s) == 1 && timeOf(s, 0) != NONE;
        }

        int singlesInAll() {
            int many = 0;
            for (int s = 0; s < swims; s++) {
                if (isSingle(s)) {
                    many++;
                }
            }
            return many;
        }

        int feltInRace(int r) {
            int felt = 0;
            for (int s = 0; s < swims; s++) {
                if (r == NONE || raceOf[s] == r) {
                    felt += feltIn(s);
                }
            }
            return felt;
        }

        int tenthsInRace(int r) {
            int round = 0;
            for (int s = 0; s < swims; s++) {
                if (r == NONE || raceOf[s] == r) {
                    round += tenthsIn(s);
                }
            }
            return round;
        }

        /** A time that was not felt is -1, which does not end in 0. */
        private int tenthsIn(int s) {
            int round = 0;
            for (int length = 0; length < LENGTHS; length++) {
                if (timeOf(s, length) % 10 == 0) {
                    round++;
                }
            }
            return round;
        }

        boolean isBetter(int swimmer, int other) {
            return said[swimmer] < said[other] || said[swimmer] == said[other] && swimmer < other;
        }
    }

    /**
     * A number for each lane that has one: a sum of doubled DIFFS by a COUNT. All of them are held
     * over one divisor too (twice the scale), so that they compare and add as whole numbers.
     */
    private static final class Levels {
        private final int[] counted;
        private final long[] sums;
        private final long[] scaled;
        private final int[] pool;
        private int present;
        private long scale;
        private long together;

        Levels() {
            counted = new int[LANES];
            sums = new long[LANES];
            scaled = new long[LANES];
            pool = new int[LANES];
            present = 0;
            scale = 1;
            together = 0;
        }

        void clear() {
            for (int lane = 0; lane < LANES; lane++) {
                counted[lane] = 0;
                sums[lane] = 0;
            }
        }

        /** COUNTS of all lanes (or pools of them) are 64 together, so the scale stays small. */
        void settle() {
            present = 0;
            scale = 1;
            together = 0;
            for (int lane = 0; lane < LANES; lane++) {
                if (counted[lane] > 0) {
                    present++;
                    scale = Fraction.commonMultiple(scale, counted[lane]);
                }
            }
            for (int lane = 0; lane < LANES; lane++) {
                scaled[lane] = counted[lane] > 0 ? sums[lane] * (scale / counted[lane]) : 0;
                together += scaled[lane];
            }
        }

        /** What a lane is more than the mean, over twice the scale times how many are present. */
        long aboveMean(int lane) {
            return present * scaled[lane] - together;
        }

        void becomeShapeOf(Levels plain) {
            for (int lane = 0; lane < LANES; lane++) {
                counted[lane] = plain.counted[lane];
                sums[lane] = plain.sums[lane];
                pool[lane] = lane;
            }
            boolean joined = true;
            for (int round = 0; round < LANES && joined; round++) {
                joined = joinFirstFall();
            }
            settle();
        }

        private boolean joinFirstFall() {
            int ahead = NONE;
            for (int lane = 0; lane < LANES; lane++) {
                if (counted[lane] == 0) {
                    continue;
                }
                if (ahead != NONE && sums[lane] * counted[ahead] < sums[ahead] * counted[lane]) {
                    join(ahead, lane);
                    return true;
                }
                ahead = lane;
            }
            return false;
        }

        private void join(int ahead, int behind) {
            int first = pool[ahead];
            int second = pool[behind];
            int count = counted[ahead] + counted[behind];
            long sum = sums[ahead] + sums[behind];
            for (int lane = 0; lane < LANES; lane++) {
                if (counted[lane] > 0 && (pool[lane] == first || pool[lane] == second)) {
                    pool[lane] = first;
                    counted[lane] = count;
                    sums[lane] = sum;
                }
            }
        }
    }

    /** What out against home tells of the water; to be surveyed anew before it is asked. */
    private static final class Water {
        private static final int MOST_DEALT = 7;
        /** Some 8,700 are needed for 7. */
        private static final int MOST_STEPS = 20000;

        private final Meet meet;
        private final Levels plain;
        private final Levels shape;
        private final boolean[] has;
        private final int[] doubled;
        private final int[] leanOfDay;
        private int ranFrom;
        private int ranTo;
        private final long[] dealt;
        private final int[] turns;

        Water(Meet itsMeet, Levels itsShape) {
            meet = itsMeet;
            plain = new Levels();
            shape = itsShape;
            has = new boolean[SWIMS];
            doubled = new int[SWIMS];
            leanOfDay = new int[DAYS];
            ranFrom = 0;
            ranTo = 0;
            dealt = new long[MOST_DEALT];
            turns = new int[MOST_DEALT];
        }

        void survey() {
            plain.clear();
            for (int s = 0; s < meet.swims; s++) {
                has[s] = meet.hasDiff(s);
                doubled[s] = has[s] ? meet.doubledDiff(s) : 0;
                if (has[s]) {
                    plain.counted[meet.laneOf[s]]++;
                    plain.sums[meet.laneOf[s]] += doubled[s];
                }
            }
            plain.settle();
            shape.becomeShapeOf(plain);
        }

        /** A race has one day, so LEAN of some days is that of each day, together. */
        void surveyDays() {
            for (int day = 0; day < DAYS; day++) {
                leanOfDay[day] = 0;
            }
            for (int a = 0; a < meet.swims; a++) {
                for (int b = a + 1; b < meet.swims && has[a]; b++) {
                    if (has[b] && meet.raceOf[a] == meet.raceOf[b]) {
                        leanOfDay[meet.dayOf[meet.raceOf[a]]] += leanOfPair(a, b);
                    }
                }
            }
            findRan();
        }

        private int leanOfPair(int a, int b) {
            int rise = Integer.compare(doubled[b], doubled[a]);
            return meet.laneOf[b] > meet.laneOf[a] ? rise : -rise;
        }

        int leanOf(int from, int to) {
            int sum = 0;
            for (int day = from; day <= to; day++) {
                sum += leanOfDay[day];
            }
            return sum;
        }

        private void findRan() {
            ranFrom = 0;
            ranTo = 0;
            int greatest = leanOfDay[0];
            for (int from = 0; from < DAYS; from++) {
                int sum = 0;
                for (int to = from; to < DAYS; to++) {
                    sum += leanOfDay[to];
                    if (sum > greatest) {
                        greatest = sum;
                        ranFrom = from;
                        ranTo = to;
                    }
                }
            }
        }

        int chanceOfShape() {
            if (plain.present < 2) {
                return NOT;
            }
            if (plain.present > MOST_DEALT) {
                return FULL;
            }
            int many = 0;
            for (int lane = 0; lane < LANES; lane++) {
                if (plain.counted[lane] > 0 && many < MOST_DEALT) {
                    dealt[many] = plain.scaled[lane];
                    turns[many] = 0;
                    many++;
                }
            }
            return shareOfOrders(many);
        }

        /** Heap's way through all orders: each is one swap from the one before, so the sum follows. */
        private int shareOfOrders(int many) {
            int orders = 1;
            int asGreat = 1;
            long more = 0;
            int at = 1;
            for (int step = 0; step < MOST_STEPS && at < many; step++) {
                if (turns[at] < at) {
                    more += swap(at % 2 == 0 ? 0 : turns[at], at);
                    orders++;
                    if (more >= 0) {
                        asGreat++;
                    }
                    turns[at]++;
                    at = 1;
                } else {
                    turns[at] = 0;
                    at++;
                }
            }
            return (int) ((long) asGreat * MILLION / Math.max(1, orders));
        }

        private long swap(int i, int j) {
            long kept = dealt[i];
            dealt[i] = dealt[j];
            dealt[j] = kept;
            return (j - i) * (dealt[j] - dealt[i]);
        }

        boolean findOwn(int swimmer, Fraction into) {
            long above = 0;
            int many = 0;
            for (int s = 0; s < meet.swims; s++) {
                if (has[s] && meet.swimmerOf[s] == swimmer) {
                    above += doubled[s] * plain.scale - plain.scaled[meet.laneOf[s]];
                    many++;
                }
            }
            if (many > 0) {
                into.set(above, 2 * plain.scale * many);
            }
            return many > 0;
        }
    }

    /** Races of one length: who was quicker in which lane, and times put right by the shape. */
    private static final class Singles {
        private static final int ALL = (1 << LANES) - 1;

        private final Meet meet;
        private final Levels shape;
        private final int[] wins;
        private final int[] best;
        private final int[] row;
        private int mostPairs;
        private final long[] rights;
        private long rightsBelow;

        Singles(Meet itsMeet, Levels itsShape) {
            meet = itsMeet;
            shape = itsShape;
            wins = new int[LANES * LANES];
            best = new int[ALL + 1];
            row = new int[LANES];
            mostPairs = 0;
            rights = new long[SWIMS];
            rightsBelow = 1;
        }

        void survey() {
            for (int i = 0; i < LANES * LANES; i++) {
                wins[i] = 0;
            }
            for (int a = 0; a < meet.swims; a++) {
                if (meet.isSingle(a)) {
                    addPairsOf(a);
                }
            }
        }

        private void addPairsOf(int a) {
            for (int b = 0; b < meet.swims; b++) {
                if (meet.swimmerOf[a] == meet.swimmerOf[b] && meet.isSingle(b)
                        && meet.timeOf(a, 0) < meet.timeOf(b, 0)) {
                    wins[meet.laneOf[a] * LANES + meet.laneOf[b]]++;
                }
            }
        }

        /** The best order of some lanes is one of them ahead of the best order of the others. */
        void arrange() {
            best[0] = 0;
            for (int some = 1; some <= ALL; some++) {
                int most = 0;
                for (int lane = 0; lane < LANES; lane++) {
                    if ((some >> lane & 1) == 1) {
                        most = Math.max(most, pairsIfFirst(lane, some));
                    }
                }
                best[some] = most;
            }
            mostPairs = best[ALL];
            int left = ALL;
            for (int i = 0; i < LANES; i++) {
                row[i] = leastFirst(left);
                left &= ~(1 << row[i]);
            }
        }

        private int leastFirst(int some) {
            for (int lane = 0; lane < LANES; lane++) {
                if ((some >> lane & 1) == 1 && pairsIfFirst(lane, some) == best[some]) {
                    return lane;
                }
            }
            return 0;
        }

        private int pairsIfFirst(int lane, int some) {
            int others = some & ~(1 << lane);
            int sum = best[others];
            for (int behind = 0; behind < LANES; behind++) {
                if ((others >> behind & 1) == 1) {
                    sum += wins[lane * LANES + behind];
                }
            }
            return sum;
        }

        /** All rights have one divisor, so that they compare as whole numbers. */
        void putRight() {
            rightsBelow = shape.present == 0 ? 1 : 4 * shape.scale * shape.present;
            for (int s = 0; s < meet.swims; s++) {
                int itsLane = meet.laneOf[s];
                long more = shape.counted[itsLane] == 0 ? 0 : shape.aboveMean(itsLane);
                rights[s] = meet.isSingle(s) ? meet.timeOf(s, 0) * rightsBelow - more : 0;
            }
        }

        private long slowness(int s, int by) {
            return by == 0 ? meet.timeOf(s, 0) : rights[s];
        }

        int placeOf(int s, int by) {
            long its = slowness(s, by);
            int quicker = 0;
            for (int other = 0; other < meet.swims; other++) {
                if (meet.raceOf[other] == meet.raceOf[s] && meet.isSingle(other)
                        && slowness(other, by) < its) {
                    quicker++;
                }
            }
            return 1 + quicker;
        }

        int changedMedals(int r) {
            if (meet.lengths[r] > 1) {
                return NOT;
            }
            int changed = 0;
            for (int s = 0; s < meet.swims; s++) {
                if (meet.raceOf[s] == r && meet.isSingle(s) && hasMedal(s, 0) != hasMedal(s, 1)) {
                    changed++;
                }
            }
            return changed;
        }

        private boolean hasMedal(int s, int by) {
            return placeOf(s, by) <= MEDALS_OF_A_RACE;
        }
    }

    /** Bytes that were typed, one behind the other. */
    private static final class Text {
        private final int[] bytes;
        private int size;

        Text(int most) {
            bytes = new int[Math.max(0, most)];
            size = 0;
        }

        boolean isFull() {
            return size >= bytes.length;
        }

        int append(int b) {
            if (!isFull()) {
                bytes[size] = b;
                size++;
            }
            return size;
        }

        int clear() {
            int had = size;
            size = 0;
            return had;
        }
    }

    /** Lanes for the best, the second best, and so on. */
    private static final class Rule {
        private final Text text;

        Rule(Text itsText) {
            text = itsText;
        }

        int faultAt() {
            int seen = 0;
            for (int i = 0; i < text.size; i++) {
                int lane = text.bytes[i] - '0';
                if (!isLane(lane) || (seen >> lane & 1) == 1) {
                    return i;
                }
                seen |= 1 << lane;
            }
            return text.size < LANES ? text.size : NONE;
        }

        /** Ranks are below 8, as a race has no more swimmers than lanes. */
        int laneFor(int rank) {
            return rank < text.size ? text.bytes[rank] - '0' : NONE;
        }

        boolean isKeptBy(Meet meet, int race) {
            for (int s = 0; s < meet.swims; s++) {
                if (meet.raceOf[s] == race && meet.laneOf[s] != laneFor(rankOf(meet, s))) {
                    return false;
                }
            }
            return true;
        }

        private static int rankOf(Meet meet, int s) {
            int rank = 0;
            for (int other = 0; other < meet.swims; other++) {
                if (meet.raceOf[other] == meet.raceOf[s]
                        && meet.isBetter(meet.swimmerOf[other], meet.swimmerOf[s])) {
                    rank++;
                }
            }
            return rank;
        }
    }

    /** Laws by which times are made: values 0 to 7 are PUSH of lanes, 8 is FADE, 9 is RANGE. */
    private static final class World {
        private static final int MOST_BYTES = 60;
        private static final int FADE = 8, RANGE = 9;

        private static final int AT_PART = 0, AT_LANE = 1, AT_EQUALS = 2, AT_NUMBER = 3,
                AT_FIGURE = 4, AT_MORE = 5, AT_END = 6, STUCK = 7;

        private final Text text;
        private final int[] values;
        private int slot;
        private int sign;

        World(Text itsText) {
            text = itsText;
            values = new int[RANGE + 1];
            slot = 0;
            sign = 1;
        }

        /** Makes the values those of the text; answers the place of its fault. */
        int parse() {
            clearValues();
            int state = AT_PART;
            for (int i = 0; i < text.size; i++) {
                state = next(state, text.bytes[i]);
                if (state == STUCK) {
                    clearValues();
                    return i;
                }
            }
            if (text.size == 0 || state == AT_MORE || state == AT_END) {
                return NONE;
            }
            clearValues();
            return text.size;
        }

        private void clearValues() {
            for (int i = 0; i <= RANGE; i++) {
                values[i] = 0;
            }
        }

        private int next(int state, int b) {
            switch (state) {
                case AT_PART: return open(b);
                case AT_LANE: return choose(b - '0');
                case AT_EQUALS: return b == '=' ? AT_NUMBER : STUCK;
                case AT_NUMBER: return b == '-' && isLane(slot) ? turn() : begin(b - '0');
                case AT_FIGURE: return begin(b - '0');
                case AT_MORE: return isFigure(b - '0') ? end(b - '0') : close(b);
                case AT_END: return close(b);
                default: return STUCK;
            }
        }

        private int open(int b) {
            sign = 1;
            if (b == 'p') {
                return AT_LANE;
            }
            if (b == 'f') {
                slot = FADE;
                return AT_EQUALS;
            }
            if (b == 'r') {
                slot = RANGE;
                return AT_EQUALS;
            }
            return STUCK;
        }

        private int choose(int lane) {
            if (!isLane(lane)) {
                return STUCK;
            }
            slot = lane;
            return AT_EQUALS;
        }

        private int turn() {
            sign = -1;
            return AT_FIGURE;
        }

        private int begin(int figure) {
            if (!isFigure(figure)) {
                return STUCK;
            }
            values[slot] = sign * figure;
            return slot == RANGE ? AT_END : AT_MORE;
        }

        private int end(int figure) {
            values[slot] = 10 * values[slot] + sign * figure;
            return AT_END;
        }

        private static int close(int b) {
            return b == ';' ? AT_PART : STUCK;
        }

        private static boolean isFigure(int v) {
            return within(v, 0, 9);
        }
    }

    /** Makes the swims of a race by a world and a seed. */
    private static final class Maker {
        private final Meet meet;
        private final Rule rule;
        private final World laws;
        private int seed;

        Maker(Meet itsMeet, Rule itsRule, World itsLaws) {
            meet = itsMeet;
            rule = itsRule;
            laws = itsLaws;
            seed = 0;
        }

        void fill(int race, int first, int many, int itsSeed) {
            seed = itsSeed;
            laws.parse();
            boolean ruled = rule.faultAt() == NONE;
            for (int swimmer = first; swimmer < first + many; swimmer++) {
                int lane = ruled ? rule.laneFor(rankAmong(swimmer, first, many)) : swimmer - first;
                int s = meet.addSwim(race, swimmer, lane);
                if (meet.hasSwim(s) && isLane(lane)) {
                    makeTimes(s, swimmer, lane);
                }
            }
        }

        private int rankAmong(int swimmer, int first, int many) {
            int rank = 0;
            for (int other = first; other < first + many; other++) {
                if (meet.isBetter(other, swimmer)) {
                    rank++;
                }
            }
            return rank;
        }

        private void makeTimes(int s, int swimmer, int lane) {
            int range = laws.values[World.RANGE];
            for (int length = 0; length < meet.lengthsOf(s); length++) {
                int push = length % 2 == 0 ? laws.values[lane] : -laws.values[lane];
                int v = meet.said[swimmer] + length * laws.values[World.FADE] + push
                        + lot(2 * range + 1) - range;
                meet.setTime(s, length, Math.max(1, Math.min(MOST_HUNDREDTHS, v)));
            }
        }

        private int lot(int n) {
            seed = 1103515245 * seed + 12345;
            return n > 0 ? (seed >>> 16) % n : 0;
        }
    }

    /** A row of items of a type, or lost; the type is kept by cutting what is put. */
    private static final class Sheet {
        private boolean isLost;
        private int kind;
        private int size;
        private final int[] items;

        Sheet() {
            isLost = true;
            kind = 0;
            size = 0;
            items = new int[ITEMS];
        }

        void renew(int itsKind, int itsSize) {
            isLost = false;
            kind = itsKind;
            size = itsSize;
            for (int i = 0; i < ITEMS; i++) {
                items[i] = 0;
            }
        }

        boolean hasItems(int from, int many) {
            return from >= 0 && many >= 0 && from <= size && many <= size - from;
        }

        int findingAt(int asKind, int i) {
            if (isLost) {
                return NULL;
            }
            if (kind != asKind) {
                return CAST;
            }
            return i >= 0 && i < size ? 0 : INDEX;
        }

        void setItem(int i, int v) {
            if (kind == 0) {
                items[i] = (byte) v;
            } else if (kind == 1) {
                items[i] = (short) v;
            } else {
                items[i] = v;
            }
        }
    }
}
