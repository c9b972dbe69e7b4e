import java.util.Arrays;

/** A river of stones that bear so many steps, and the people who would go over it. */
public final class BearsTwo {
    public static final int NONE = -1;

    private static final int NO_SUCH = -2;
    private static final int TOO_MANY = -3;
    private static final int BELOW_NONE = -3;
    private static final int FAULTY = -4;
    private static final int CANNOT = -5;
    private static final int NOTHING_THERE = -6;
    private static final int BEYOND = -7;
    private static final int OTHER_WIDTH = -8;
    private static final int NO_GAP = -1000000;

    private static final int NEAR = 98;
    private static final int FAR = 99;

    private static final int STONES = 24;
    private static final int PEOPLE = 8;
    private static final int STRIDES = 9;
    private static final int WAYS = 4;
    private static final int HOURS = 24;
    private static final int SLOTS = 4;
    private static final int IMAGES = 3;
    private static final int ROW_SIZE = 60;
    private static final int TAPE_SIZE = 1600;
    private static final int UNBOUND = 999;
    private static final int LAST_SEED = 2000000000;
    private static final long CERTAIN = 1000000000L;

    private final byte[] tape = new byte[TAPE_SIZE];
    private int tapeSize;
    private int faultKind;
    private int faultPlace = NONE;
    private final Reader reader = new Reader();
    private final River told = new River();
    private final Scene now = new Scene(told);
    private final Scene thought = new Scene(told);
    private final Links links = new Links();
    private final Ways ways = new Ways(links);
    private final Crossing crossing = new Crossing(ways);
    private final Orders orders = new Orders(crossing, told);
    private final Doubts doubts = new Doubts(links);
    private final Flow flow = new Flow(links);
    private final Row[] slots = new Row[SLOTS];
    private final River[] keptRivers = new River[IMAGES];
    private final Scene[] keptScenes = new Scene[IMAGES];
    private final boolean[] kept = new boolean[IMAGES];

    public BearsTwo() {
        for (int slot = 0; slot < SLOTS; slot++) {
            slots[slot] = new Row();
        }
        for (int k = 0; k < IMAGES; k++) {
            keptRivers[k] = new River();
            keptScenes[k] = new Scene(keptRivers[k]);
        }
    }

    // ---- the TAPE and the RIVER

    public int feed(int a, int b, int c, int d, int e) {
        if (tapeSize + 20 > TAPE_SIZE) {
            return NONE;
        }
        putBytes(a);
        putBytes(b);
        putBytes(c);
        putBytes(d);
        putBytes(e);
        return tapeSize;
    }

    private void putBytes(int number) {
        for (int shift = 24; shift >= 0 && tapeSize < TAPE_SIZE; shift -= 8) {
            tape[tapeSize] = (byte) (number >> shift);
            tapeSize++;
        }
    }

    public int end(int n) {
        if (n < 0 || n > tapeSize) {
            return NONE;
        }
        tapeSize = n;
        return n;
    }

    public int river() {
        reader.readAll(tape, tapeSize);
        tapeSize = 0;
        faultKind = reader.fault;
        faultPlace = reader.place;
        if (faultKind != 0) {
            return FAULTY;
        }
        told.takeFrom(reader.told);
        now.begin();
        links.lay(told);
        orders.forget();
        return told.lines;
    }

    public int fault(int what) {
        if (what == 0) {
            return faultKind;
        }
        return what == 1 ? faultPlace : NONE;
    }

    // ---- what is told of

    public int stone(int stone, int what) {
        if (!isStone(stone)) {
            return NO_SUCH;
        }
        switch (what) {
            case 0:
                return told.x[stone];
            case 1:
                return told.y[stone];
            case 2:
                return now.leftOf(stone);
            case 3:
                return now.borne[stone];
            case 4:
                return knowledgeOf(stone);
            default:
                return NO_SUCH;
        }
    }

    private int knowledgeOf(int stone) {
        if (now.inDoubt(stone)) {
            return NONE;
        }
        return now.known[stone] == Scene.BEARS_ONE ? 1 : 0;
    }

    public int person(int p, int what) {
        if (!isPerson(p)) {
            return NO_SUCH;
        }
        switch (what) {
            case 0:
                return now.place[p];
            case 1:
                return told.hand[p];
            case 2:
                return told.unitOf(p);
            default:
                return NO_SUCH;
        }
    }

    public int may(int a, int b, int stride) {
        if (!told.isPlace(a) || !told.isPlace(b) || !isStride(stride)) {
            return NO_SUCH;
        }
        return told.joins(a, b, stride) ? 1 : 0;
    }

    public int reach(int stride) {
        if (!isStride(stride)) {
            return NO_SUCH;
        }
        return links.flood(now.openFor(1), stride);
    }

    public int hour(int h) {
        if (!isHour(h)) {
            return NO_SUCH;
        }
        int was = now.hour;
        now.hour = h;
        orders.forget();
        return was;
    }

    public int fresh() {
        orders.forget();
        return now.wash();
    }

    // ---- WAYS and STEPS

    public int length(int stride, int weight, int way) {
        if (!isStride(stride) || !isWeight(weight) || !isWay(way)) {
            return NO_SUCH;
        }
        return ways.seek(now, stride, weight, way, NEAR);
    }

    public int path(int stride, int weight, int way, int i) {
        if (!isStride(stride) || !isWeight(weight) || !isWay(way)) {
            return NO_SUCH;
        }
        int size = ways.seek(now, stride, weight, way, NEAR);
        return i >= 0 && i < size && i < STONES ? ways.row[i] : NONE;
    }

    public int step(int p, int to) {
        if (!isPerson(p) || !told.isPlace(to)) {
            return NO_SUCH;
        }
        if (!now.takeStep(p, to)) {
            return CANNOT;
        }
        orders.forget();
        return to < STONES ? now.leftOf(to) : 0;
    }

    public int judge(int slot) {
        if (!isSlot(slot)) {
            return NO_SUCH;
        }
        return slots[slot].there ? stepsInThought(slots[slot]) : NOTHING_THERE;
    }

    public int ends(int slot, int p) {
        if (!isSlot(slot) || !isPerson(p)) {
            return NO_SUCH;
        }
        if (!slots[slot].there) {
            return NOTHING_THERE;
        }
        stepsInThought(slots[slot]);
        return thought.place[p];
    }

    private int stepsInThought(Row row) {
        thought.takeFrom(now);
        int taken = 0;
        for (int i = 0; i + 1 < row.size; i += 2) {
            if (!stepInThought(row.numbers[i], row.numbers[i + 1])) {
                return taken;
            }
            taken++;
        }
        return taken;
    }

    /** The numbers stay long until they are found to be small: an int's cut could make a PERSON of a great one. */
    private boolean stepInThought(long p, long to) {
        if (p < 0 || p >= told.people || to < 0 || to > FAR) {
            return false;
        }
        return told.isPlace((int) to) && thought.takeStep((int) p, (int) to);
    }

    // ---- who gets over

    public int go(int unit, int way) {
        if (!told.isUnit(unit) || !isWay(way)) {
            return NO_SUCH;
        }
        int size = crossing.send(now, unit, way);
        if (size < 0) {
            return CANNOT;
        }
        orders.forget();
        return size;
    }

    public int over(int way, int what) {
        if (!isWay(way) || what < 0 || what > 3) {
            return NO_SUCH;
        }
        int people = overInThought(way);
        switch (what) {
            case 0:
                return Integer.bitCount(people);
            case 1:
                return told.worthOf(people);
            case 2:
                return people;
            default:
                return thought.missing();
        }
    }

    private int overInThought(int way) {
        thought.takeFrom(now);
        return crossing.sendOver(thought, way);
    }

    public int all(int way) {
        if (!isWay(way)) {
            return NO_SUCH;
        }
        orders.forget();
        return Integer.bitCount(crossing.sendOver(now, way));
    }

    public int order(int way, int what) {
        if (!isWay(way) || what < 0 || what > 7) {
            return NO_SUCH;
        }
        if (!orders.find(now, way)) {
            return TOO_MANY;
        }
        if (what == 0) {
            return orders.bestWorth;
        }
        return what == 1 ? orders.bestMust : orders.unitAt(what - 2);
    }

    public int gap(int way) {
        if (!isWay(way) || !orders.find(now, way)) {
            return NO_GAP;
        }
        return orders.bestWorth - told.worthOf(overInThought(way));
    }

    public int home(int way) {
        if (!isWay(way)) {
            return NO_SUCH;
        }
        overInThought(way);
        return Integer.bitCount(crossing.sendHome(thought, way));
    }

    public int days(int way) {
        if (!isWay(way)) {
            return NO_SUCH;
        }
        thought.takeFrom(now);
        // Each day takes one PERSON over at the least, so there are no more days than PEOPLE.
        for (int day = 0; day <= PEOPLE; day++) {
            if (thought.peopleAt(NEAR) == 0) {
                return day;
            }
            thought.wash();
            if (crossing.sendOver(thought, way) == 0) {
                return NONE;
            }
        }
        return NONE;
    }

    public int best() {
        if (!isTold()) {
            return NO_SUCH;
        }
        int bestWay = 0;
        int bestWorth = NONE;
        for (int way = 0; way < WAYS; way++) {
            int worth = told.worthOf(overInThought(way));
            if (worth > bestWorth) {
                bestWorth = worth;
                bestWay = way;
            }
        }
        return bestWay;
    }

    // ---- how many get over at once

    public int most(int stride, int weight) {
        if (!isStride(stride) || !isWeight(weight)) {
            return NO_SUCH;
        }
        return mostOf(now, stride, weight);
    }

    private int mostOf(Scene scene, int stride, int weight) {
        if (stride >= told.wide) {
            return UNBOUND;
        }
        flow.lay(scene, stride, weight);
        return flow.fill();
    }

    public int cut(int stride, int weight) {
        if (!isStride(stride) || !isWeight(weight)) {
            return NO_SUCH;
        }
        return mostOf(now, stride, weight) == UNBOUND ? 0 : flow.barring();
    }

    public int bars(int stone, int stride, int weight) {
        if (!isStone(stone) || !isStride(stride) || !isWeight(weight)) {
            return NO_SUCH;
        }
        if (stride >= told.wide) {
            return 0;
        }
        int all = mostOf(now, stride, weight);
        flow.lay(now, stride, weight);
        flow.lift(stone);
        return all - flow.fill();
    }

    public int alike(int stride, int weight, int way) {
        if (!isStride(stride) || !isWeight(weight) || !isWay(way)) {
            return NO_SUCH;
        }
        if (stride >= told.wide) {
            return UNBOUND;
        }
        thought.takeFrom(now);
        int gone = 0;
        while (gone < UNBOUND && ways.seek(thought, stride, weight, way, NEAR) > 0) {
            ways.wear(thought, weight);
            gone++;
        }
        return gone;
    }

    // ---- one STONE more, one moved, a plank

    public int more(int x, int y, int bears, int stride) {
        if (!isStride(stride) || !isLoad(bears) || !told.isInWater(x, y)) {
            return NO_SUCH;
        }
        if (told.stoneAt(x, y) != NONE) {
            return CANNOT;
        }
        if (stride >= told.wide) {
            return UNBOUND;
        }
        flow.lay(now, stride, 1);
        flow.put(told, STONES, x, y, bears);
        return flow.fill();
    }

    public int where(int bears, int stride) {
        if (!isStride(stride) || !isLoad(bears)) {
            return NO_SUCH;
        }
        boolean unbound = stride >= told.wide;
        int bestSpot = NONE;
        int bestMost = NONE;
        int before = unbound ? UNBOUND : mostOf(now, stride, 1);
        flow.save();
        for (int y = 1; y < told.wide; y++) {
            for (int x = 0; x < told.span; x++) {
                if (told.stoneAt(x, y) != NONE) {
                    continue;
                }
                boolean helps = !unbound && flow.stoneHelps(told, x, y);
                int most = helps ? mostWithOneMore(x, y, bears) : before;
                if (most > bestMost) {
                    bestMost = most;
                    bestSpot = x + 100 * y;
                }
            }
        }
        return bestSpot;
    }

    /** What the other STONES let over is laid already: only what the new one adds is sought. */
    private int mostWithOneMore(int x, int y, int bears) {
        flow.restore();
        flow.put(told, STONES, x, y, bears);
        return flow.fill();
    }

    public int moved(int stone, int to, int stride) {
        if (!isStone(stone) || !isStride(stride) || to < 0 || to > 4) {
            return NO_SUCH;
        }
        return mostMoved(stone, to, stride);
    }

    private int mostMoved(int stone, int to, int stride) {
        int x = told.x[stone] + (to == 1 ? 1 : 0) - (to == 2 ? 1 : 0);
        int y = told.y[stone] + (to == 3 ? 1 : 0) - (to == 4 ? 1 : 0);
        if (to != 0 && (!told.isInWater(x, y) || told.stoneAt(x, y) != NONE)) {
            return CANNOT;
        }
        if (stride >= told.wide) {
            return UNBOUND;
        }
        flow.lay(now, stride, 1);
        flow.lift(stone);
        flow.put(told, stone, x, y, now.leftOf(stone));
        return flow.fill();
    }

    public int move(int stone, int stride) {
        if (!isStone(stone) || !isStride(stride)) {
            return NO_SUCH;
        }
        int bestTo = 0;
        int bestMost = NONE;
        for (int to = 0; to <= 4; to++) {
            int most = mostMoved(stone, to, stride);
            if (most > bestMost) {
                bestMost = most;
                bestTo = to;
            }
        }
        return bestTo;
    }

    public int plank(int a, int b, int stride) {
        if (!told.isPlace(a) || !told.isPlace(b) || a == b || !isStride(stride)) {
            return NO_SUCH;
        }
        if (!told.joins(a, b, told.plank)) {
            return CANNOT;
        }
        if (stride >= told.wide || Math.min(a, b) == NEAR) {
            return UNBOUND;
        }
        flow.lay(now, stride, 1);
        flow.join(a, b);
        return flow.fill();
    }

    public int planks(int stride) {
        if (!isStride(stride)) {
            return NO_SUCH;
        }
        boolean unbound = stride >= told.wide;
        int bestPair = NONE;
        int bestMost = NONE;
        int before = unbound ? UNBOUND : mostOf(now, stride, 1);
        flow.save();
        for (int i = 0; i < told.stones + 2; i++) {
            int a = told.placeBy(i);
            for (int j = i + 1; j < told.stones + 2; j++) {
                int b = told.placeBy(j);
                if (!told.joins(a, b, told.plank)) {
                    continue;
                }
                int most = unbound || a == NEAR ? UNBOUND : mostWithPlank(a, b, before);
                if (most > bestMost) {
                    bestMost = most;
                    bestPair = 100 * a + b;
                }
            }
        }
        return bestPair;
    }

    private int mostWithPlank(int a, int b, int before) {
        if (!flow.linkHelps(a, b)) {
            return before;
        }
        flow.restore();
        flow.join(a, b);
        return flow.fill();
    }

    // ---- doubts

    public int know(int stone, boolean one) {
        if (!isStone(stone)) {
            return NO_SUCH;
        }
        if (!now.inDoubt(stone)) {
            return CANNOT;
        }
        now.known[stone] = one ? Scene.BEARS_ONE : Scene.BEARS_TOLD;
        orders.forget();
        return 0;
    }

    public long sure(int stride, int weight) {
        if (!isStride(stride) || !isWeight(weight)) {
            return NO_SUCH;
        }
        return doubts.chance(now, stride, weight);
    }

    public long tread(int stone, int stride, int weight) {
        if (!isStone(stone) || !isStride(stride) || !isWeight(weight)) {
            return NO_SUCH;
        }
        return now.inDoubt(stone) ? treadOf(stone, stride, weight) : 0;
    }

    private long treadOf(int stone, int stride, int weight) {
        thought.takeFrom(now);
        thought.known[stone] = Scene.BEARS_ONE;
        long ifOne = doubts.chance(thought, stride, weight);
        thought.known[stone] = Scene.BEARS_TOLD;
        long ifTold = doubts.chance(thought, stride, weight);
        int n = told.doubt[stone];
        return (n * ifOne + (100 - n) * ifTold) / 100 - doubts.chance(now, stride, weight);
    }

    public int first(int stride, int weight) {
        if (!isStride(stride) || !isWeight(weight)) {
            return NO_SUCH;
        }
        int bestStone = NONE;
        long bestWorth = 0;
        for (int stone = 0; stone < told.stones; stone++) {
            long worth = now.inDoubt(stone) ? treadOf(stone, stride, weight) : 0;
            if (worth > bestWorth) {
                bestWorth = worth;
                bestStone = stone;
            }
        }
        return bestStone;
    }

    // ---- the doctor, the hour, who must wait

    public int price(int stride, int doctor, int way) {
        if (!isStride(stride) || !isStride(doctor) || !isWay(way)) {
            return NO_SUCH;
        }
        return priceOf(stride, doctor, way);
    }

    private int priceOf(int stride, int doctor, int way) {
        if (ways.seek(now, doctor, 1, way, NEAR) < 0) {
            return NONE;
        }
        thought.takeFrom(now);
        ways.wear(thought, 1);
        return mostOf(now, stride, 1) - mostOf(thought, stride, 1);
    }

    public int keep(int stride, int doctor) {
        if (!isStride(stride) || !isStride(doctor)) {
            return NO_SUCH;
        }
        int bestWay = NONE;
        int bestPrice = UNBOUND + 1;
        for (int way = 0; way < WAYS; way++) {
            int price = priceOf(stride, doctor, way);
            if (price != NONE && price < bestPrice) {
                bestPrice = price;
                bestWay = way;
            }
        }
        return bestWay;
    }

    public int late(int stride, int hour) {
        if (!isStride(stride) || !isHour(hour)) {
            return NO_SUCH;
        }
        return mostAt(stride, hour);
    }

    private int mostAt(int stride, int hour) {
        thought.takeFrom(now);
        thought.hour = hour;
        return mostOf(thought, stride, 1);
    }

    public int noon(int stride, int n) {
        if (!isStride(stride) || n < 0 || n > UNBOUND) {
            return NO_SUCH;
        }
        for (int hour = HOURS - 1; hour >= 0; hour--) {
            if (mostAt(stride, hour) >= n) {
                return hour;
            }
        }
        return NONE;
    }

    public int waits(int slot, int other) {
        int wrong = wrongRows(slot, other);
        if (wrong != 0) {
            return wrong;
        }
        for (int minutes = 0; minutes <= ROW_SIZE; minutes++) {
            if (!slots[slot].meets(slots[other], minutes)) {
                return minutes;
            }
        }
        return NONE;
    }

    public int cross(int slot, int other) {
        int wrong = wrongRows(slot, other);
        if (wrong != 0) {
            return wrong;
        }
        return Integer.bitCount(slots[slot].stones() & slots[other].stones());
    }

    /** 0, if both are rows of STONES; else what is to be answered. */
    private int wrongRows(int slot, int other) {
        if (!isSlot(slot) || !isSlot(other)) {
            return NO_SUCH;
        }
        if (!slots[slot].there || !slots[other].there) {
            return NOTHING_THERE;
        }
        boolean fine = slots[slot].allBelow(told.stones) && slots[other].allBelow(told.stones);
        return fine ? 0 : NO_SUCH;
    }

    // ---- days drawn

    public int run(int seed, int way) {
        if (!isSeed(seed) || !isWay(way)) {
            return NO_SUCH;
        }
        return peopleOnDay(seed, way);
    }

    private int peopleOnDay(int seed, int way) {
        thought.takeFrom(now);
        return Integer.bitCount(crossing.wadeOver(thought, way, now.drawn(seed)));
    }

    public int runs(int seed, int n, int way, int what) {
        if (!isSeed(seed) || n < 1 || n > ROW_SIZE || !isWay(way) || what < 0 || what > 2) {
            return NO_SUCH;
        }
        int together = 0;
        int fewest = PEOPLE;
        int fine = 0;
        for (int day = 0; day < n; day++) {
            int people = peopleOnDay(seed + day, way);
            together += people;
            fewest = Math.min(fewest, people);
            if (thought.missing() == 0) {
                fine++;
            }
        }
        if (what == 0) {
            return together;
        }
        return what == 1 ? fewest : fine;
    }

    // ---- counts, images, SLOTS

    public int count(int what) {
        switch (what) {
            case 0:
                return told.wide;
            case 1:
                return told.span;
            case 2:
                return told.stones;
            case 3:
                return told.people;
            case 4:
                return now.hour;
            case 5:
                return told.lines;
            case 6:
                return tapeSize;
            case 7:
                return Integer.bitCount(now.peopleAt(NEAR));
            case 8:
                return Integer.bitCount(now.peopleAt(FAR));
            case 9:
                return now.stonesInDoubt();
            case 10:
                return told.plank;
            case 11:
                return rowsThere();
            default:
                return NONE;
        }
    }

    private int rowsThere() {
        int rows = 0;
        for (int slot = 0; slot < SLOTS; slot++) {
            rows += slots[slot].there ? 1 : 0;
        }
        return rows;
    }

    public int image(int k) {
        if (!isImage(k)) {
            return NO_SUCH;
        }
        keptRivers[k].takeFrom(told);
        keptScenes[k].takeFrom(now);
        kept[k] = true;
        return 0;
    }

    public int back(int k) {
        if (!isImage(k)) {
            return NO_SUCH;
        }
        if (!kept[k]) {
            return NOTHING_THERE;
        }
        told.takeFrom(keptRivers[k]);
        now.takeFrom(keptScenes[k]);
        links.lay(told);
        orders.forget();
        return 0;
    }

    public int row(int slot, int width, int n) {
        if (!isSlot(slot) || width < 0 || width > 3 || n > ROW_SIZE) {
            return NO_SUCH;
        }
        if (n < 0) {
            return BELOW_NONE;
        }
        slots[slot].clear(width, n);
        return 0;
    }

    public int write(int slot, int i, long v) {
        if (!isSlot(slot)) {
            return NO_SUCH;
        }
        if (!slots[slot].there) {
            return NOTHING_THERE;
        }
        return slots[slot].put(i, v) ? 0 : BEYOND;
    }

    public int paste(int slot, int i, int to, int k, int n) {
        if (!isSlot(slot) || !isSlot(to)) {
            return NO_SUCH;
        }
        if (!slots[slot].there || !slots[to].there) {
            return NOTHING_THERE;
        }
        if (slots[slot].width != slots[to].width) {
            return OTHER_WIDTH;
        }
        if (!slots[slot].has(i, n) || !slots[to].has(k, n)) {
            return BEYOND;
        }
        System.arraycopy(slots[slot].numbers, i, slots[to].numbers, k, n);
        return 0;
    }

    // ---- what there is

    private boolean isTold() {
        return told.lines > 0;
    }

    private boolean isStone(int stone) {
        return stone >= 0 && stone < told.stones;
    }

    private boolean isPerson(int p) {
        return p >= 0 && p < told.people;
    }

    private boolean isStride(int stride) {
        return isTold() && stride >= 1 && stride <= STRIDES;
    }

    private boolean isWay(int way) {
        return isTold() && way >= 0 && way < WAYS;
    }

    private boolean isHour(int hour) {
        return isTold() && hour >= 0 && hour < HOURS;
    }

    private static boolean isWeight(int weight) {
        return weight >= 1 && weight <= 6;
    }

    private static boolean isLoad(int bears) {
        return bears >= 1 && bears <= 9;
    }

    private static boolean isSeed(int seed) {
        return seed >= 0 && seed <= LAST_SEED;
    }

    private static boolean isSlot(int slot) {
        return slot >= 0 && slot < SLOTS;
    }

    private static boolean isImage(int k) {
        return k >= 0 && k < IMAGES;
    }

    /** The RIVER as it was told; without LINES there is none. */
    private static final class River {
        int lines;
        int wide;
        int span;
        int plank;
        int stones;
        int people;
        /** The PEOPLE who must go over, and those who are to come back, as bits. */
        int must;
        int returns;
        final int[] x = new int[STONES];
        final int[] y = new int[STONES];
        final int[] bears = new int[STONES];
        final int[] sinks = new int[STONES];
        final int[] doubt = new int[STONES];
        final int[] stride = new int[PEOPLE];
        final int[] weight = new int[PEOPLE];
        final int[] worth = new int[PEOPLE];
        final int[] hand = new int[PEOPLE];

        void clear() {
            lines = 0;
            wide = 0;
            span = 0;
            plank = 0;
            stones = 0;
            people = 0;
            must = 0;
            returns = 0;
        }

        void takeFrom(River other) {
            lines = other.lines;
            wide = other.wide;
            span = other.span;
            plank = other.plank;
            stones = other.stones;
            people = other.people;
            must = other.must;
            returns = other.returns;
            System.arraycopy(other.x, 0, x, 0, STONES);
            System.arraycopy(other.y, 0, y, 0, STONES);
            System.arraycopy(other.bears, 0, bears, 0, STONES);
            System.arraycopy(other.sinks, 0, sinks, 0, STONES);
            System.arraycopy(other.doubt, 0, doubt, 0, STONES);
            System.arraycopy(other.stride, 0, stride, 0, PEOPLE);
            System.arraycopy(other.weight, 0, weight, 0, PEOPLE);
            System.arraycopy(other.worth, 0, worth, 0, PEOPLE);
            System.arraycopy(other.hand, 0, hand, 0, PEOPLE);
        }

        boolean isPlace(int place) {
            return lines > 0 && (place >= 0 && place < stones || place == NEAR || place == FAR);
        }

        /** The PLACES by their numbers: behind the last STONE come this bank and the far one. */
        int placeBy(int i) {
            return i < stones ? i : NEAR + i - stones;
        }

        boolean isInWater(int atX, int atY) {
            return atX >= 0 && atX < span && atY >= 1 && atY < wide;
        }

        int stoneAt(int atX, int atY) {
            for (int s = 0; s < stones; s++) {
                if (x[s] == atX && y[s] == atY) {
                    return s;
                }
            }
            return NONE;
        }

        private int across(int place) {
            if (place == NEAR) {
                return 0;
            }
            return place == FAR ? wide : y[place];
        }

        /** The square of the distance of two PLACES; a bank is as near along as can be. */
        int square(int a, int b) {
            int along = a < STONES && b < STONES ? x[a] - x[b] : 0;
            int wayAcross = across(a) - across(b);
            return along * along + wayAcross * wayAcross;
        }

        boolean joins(int a, int b, int far) {
            return a != b && square(a, b) <= far * far;
        }

        boolean isUnit(int unit) {
            return unit >= 0 && unit < people && (hand[unit] == NONE || hand[unit] > unit);
        }

        int unitOf(int p) {
            return hand[p] == NONE ? p : Math.min(p, hand[p]);
        }

        int peopleOf(int unit) {
            return hand[unit] == NONE ? 1 << unit : 1 << unit | 1 << hand[unit];
        }

        int strideOf(int unit) {
            return hand[unit] == NONE ? stride[unit] : Math.min(stride[unit], stride[hand[unit]]);
        }

        int weightOf(int unit) {
            return hand[unit] == NONE ? weight[unit] : weight[unit] + weight[hand[unit]];
        }

        boolean mustGo(int unit) {
            return (must & peopleOf(unit)) != 0;
        }

        boolean comesBack(int unit) {
            return (returns & peopleOf(unit)) != 0;
        }

        int worthOf(int bits) {
            int sum = 0;
            for (int p = 0; p < people; p++) {
                if ((bits >> p & 1) != 0) {
                    sum += worth[p];
                }
            }
            return sum;
        }
    }

    /** What changes: the HOUR, what STONES have borne, what is known of them, where all are. */
    private static final class Scene {
        static final int BEARS_ONE = 1;
        static final int BEARS_TOLD = 2;

        final River told;
        int hour;
        final int[] borne = new int[STONES];
        final int[] known = new int[STONES];
        final int[] place = new int[PEOPLE];

        Scene(River told) {
            this.told = told;
            Arrays.fill(place, NEAR);
        }

        void begin() {
            hour = 0;
            Arrays.fill(borne, 0);
            Arrays.fill(known, 0);
            Arrays.fill(place, NEAR);
        }

        void takeFrom(Scene other) {
            hour = other.hour;
            System.arraycopy(other.borne, 0, borne, 0, STONES);
            System.arraycopy(other.known, 0, known, 0, STONES);
            System.arraycopy(other.place, 0, place, 0, PEOPLE);
        }

        int wash() {
            int sum = 0;
            for (int s = 0; s < STONES; s++) {
                sum += borne[s];
                borne[s] = 0;
            }
            return sum;
        }

        int leftOf(int s) {
            if (told.sinks[s] > 0 && hour >= told.sinks[s]) {
                return 0;
            }
            int left = (known[s] == BEARS_ONE ? 1 : told.bears[s]) - borne[s];
            return left > 0 ? left : 0;
        }

        int openFor(int weight) {
            int open = 0;
            for (int s = 0; s < told.stones; s++) {
                if (leftOf(s) >= weight) {
                    open |= 1 << s;
                }
            }
            return open;
        }

        boolean inDoubt(int s) {
            return told.doubt[s] > 0 && known[s] == 0;
        }

        int stonesInDoubt() {
            int bits = 0;
            for (int s = 0; s < told.stones; s++) {
                if (inDoubt(s)) {
                    bits |= 1 << s;
                }
            }
            return bits;
        }

        /** The STONES in doubt that bear just one on the day that is drawn from a seed. */
        int drawn(int seed) {
            long x = seed;
            int ones = 0;
            for (int s = 0; s < told.stones; s++) {
                if (inDoubt(s)) {
                    x = (1103515245L * x + 12345L) % 2147483648L;
                    if (x / 65536 % 100 < told.doubt[s]) {
                        ones |= 1 << s;
                    }
                }
            }
            return ones;
        }

        int peopleAt(int bank) {
            int bits = 0;
            for (int p = 0; p < told.people; p++) {
                if (place[p] == bank) {
                    bits |= 1 << p;
                }
            }
            return bits;
        }

        boolean isAt(int unit, int bank) {
            int partner = told.hand[unit];
            return place[unit] == bank && (partner == NONE || place[partner] == bank);
        }

        void settle(int unit, int at) {
            place[unit] = at;
            if (told.hand[unit] != NONE) {
                place[told.hand[unit]] = at;
            }
        }

        /** The UNITS that must, one of whom is not at the far bank. */
        int missing() {
            int bits = 0;
            for (int unit = 0; unit < told.people; unit++) {
                if (told.isUnit(unit) && told.mustGo(unit) && !isAt(unit, FAR)) {
                    bits |= 1 << unit;
                }
            }
            return bits;
        }

        boolean takeStep(int p, int to) {
            if (!told.joins(place[p], to, told.stride[p])) {
                return false;
            }
            if (to < STONES) {
                if (leftOf(to) < told.weight[p]) {
                    return false;
                }
                borne[to] += told.weight[p];
            }
            place[p] = to;
            return true;
        }
    }

    /** Which STEPS there are between PLACES by each stride, as bits of STONES. */
    private static final class Links {
        final int[] near = new int[STRIDES + 1];
        final int[] far = new int[STRIDES + 1];
        final int[] next = new int[(STRIDES + 1) * STONES];

        void lay(River told) {
            Arrays.fill(near, 0);
            Arrays.fill(far, 0);
            Arrays.fill(next, 0);
            for (int s = 0; s < told.stones; s++) {
                int bit = 1 << s;
                for (int stride = told.y[s]; stride <= STRIDES; stride++) {
                    near[stride] |= bit;
                }
                for (int stride = told.wide - told.y[s]; stride <= STRIDES; stride++) {
                    far[stride] |= bit;
                }
                for (int other = 0; other < s; other++) {
                    link(s, other, told.square(s, other));
                }
            }
        }

        private void link(int a, int b, int square) {
            for (int stride = STRIDES; stride > 0 && stride * stride >= square; stride--) {
                next[stride * STONES + a] |= 1 << b;
                next[stride * STONES + b] |= 1 << a;
            }
        }

        /** Which of the open STONES one comes to from this bank over open ones. */
        int flood(int open, int stride) {
            int reached = near[stride] & open;
            int todo = reached;
            for (int k = 0; k < STONES && todo != 0; k++) {
                int s = Integer.numberOfTrailingZeros(todo);
                int come = next[stride * STONES + s] & open & ~reached;
                reached |= come;
                todo = todo & todo - 1 | come;
            }
            return reached;
        }

        boolean crosses(int open, int stride) {
            return (flood(open, stride) & far[stride]) != 0;
        }
    }

    /** The row of STONES by a WAY from one bank to the other one. */
    private static final class Ways {
        /** More than any row costs. */
        private static final int ENDLESS = 1 << 20;

        final int[] row = new int[STONES];
        int size;
        private final Links links;
        private final int[] cost = new int[STONES];
        private final int[] tail = new int[STONES];
        private final int[] reached = new int[STRIDES + 1];

        Ways(Links links) {
            this.links = links;
        }

        /** How many STONES the row has then; NONE: there is no WAY. */
        int seek(Scene scene, int stride, int weight, int way, int from) {
            size = 0;
            if (stride >= scene.told.wide) {
                return 0;
            }
            int open = scene.openFor(weight);
            int begin = from == NEAR ? links.near[stride] : links.far[stride];
            int goal = from == NEAR ? links.far[stride] : links.near[stride];
            if ((begin & open) == 0 || (goal & open) == 0) {
                return NONE;
            }
            if (way == 1) {
                putReached(scene.told, scene.openFor(1));
            }
            putCosts(scene, way);
            spread(stride, open, begin, goal & open);
            walk(stride, open, begin & open);
            return size == 0 ? NONE : size;
        }

        /** A cost is 32 times what the WAY looks at, and 1: of equal sums fewer STONES are less. */
        private void putCosts(Scene scene, int way) {
            for (int s = 0; s < scene.told.stones; s++) {
                int by = 1;
                if (way == 1) {
                    by = 1 + crowd(scene.told, s);
                } else if (way == 2) {
                    by = scene.leftOf(s);
                } else if (way == 3) {
                    by = 10 - scene.leftOf(s);
                }
                cost[s] = 32 * by + 1;
            }
        }

        private void putReached(River told, int open) {
            Arrays.fill(reached, NONE);
            for (int p = 0; p < told.people; p++) {
                int stride = told.stride[p];
                if (reached[stride] == NONE) {
                    reached[stride] = links.flood(open, stride);
                }
            }
        }

        private int crowd(River told, int s) {
            int people = 0;
            for (int p = 0; p < told.people; p++) {
                people += reached[told.stride[p]] >> s & 1;
            }
            return people;
        }

        /**
         * What it costs from open STONES (themselves too) to the goal bank, the cheapest first. Those that come behind
         * the first one of the other bank cost no less than it, and no row that is sought has them behind another.
         */
        private void spread(int stride, int open, int begin, int goal) {
            Arrays.fill(tail, ENDLESS);
            for (int rest = goal; rest != 0; rest &= rest - 1) {
                int v = Integer.numberOfTrailingZeros(rest);
                tail[v] = cost[v];
            }
            int seen = goal;
            int todo = open;
            int s = least(goal);
            for (int k = 0; k < STONES && s != NONE && (begin >> s & 1) == 0; k++) {
                todo &= ~(1 << s);
                int come = links.next[stride * STONES + s] & todo;
                seen |= come;
                for (int rest = come; rest != 0; rest &= rest - 1) {
                    int v = Integer.numberOfTrailingZeros(rest);
                    tail[v] = Math.min(tail[v], tail[s] + cost[v]);
                }
                s = least(seen & todo);
            }
        }

        /** Of these STONES the one of the least tail, the first of several; NONE: from none one comes to the goal. */
        private int least(int stones) {
            int best = NONE;
            int bestTail = ENDLESS;
            for (int rest = stones; rest != 0; rest &= rest - 1) {
                int s = Integer.numberOfTrailingZeros(rest);
                if (tail[s] < bestTail) {
                    best = s;
                    bestTail = tail[s];
                }
            }
            return best;
        }

        /** From STONE to STONE by the least tail, which makes the row the least one too. */
        private void walk(int stride, int open, int begin) {
            int s = least(begin);
            while (s != NONE && size < STONES) {
                row[size] = s;
                size++;
                s = tail[s] > cost[s] ? least(links.next[stride * STONES + s] & open) : NONE;
            }
        }

        /** The STONES of the row bear one of this weight. */
        void wear(Scene scene, int weight) {
            for (int i = 0; i < size; i++) {
                scene.borne[row[i]] += weight;
            }
        }
    }

    /** UNITS that go from bank to bank. */
    private static final class Crossing {
        private final Ways ways;

        Crossing(Ways ways) {
            this.ways = ways;
        }

        /** How many STONES the UNIT goes over; NONE: it does not go. */
        int send(Scene scene, int unit, int way) {
            boolean isNear = scene.isAt(unit, NEAR);
            if (!isNear && !scene.isAt(unit, FAR)) {
                return NONE;
            }
            int weight = scene.told.weightOf(unit);
            int size = ways.seek(scene, scene.told.strideOf(unit), weight, way, isNear ? NEAR : FAR);
            if (size >= 0) {
                ways.wear(scene, weight);
                scene.settle(unit, isNear ? FAR : NEAR);
            }
            return size;
        }

        /** The PEOPLE who get over in order, as bits. */
        int sendOver(Scene scene, int way) {
            int people = 0;
            for (int unit = 0; unit < scene.told.people; unit++) {
                if (scene.told.isUnit(unit) && scene.isAt(unit, NEAR) && send(scene, unit, way) >= 0) {
                    people |= scene.told.peopleOf(unit);
                }
            }
            return people;
        }

        int sendHome(Scene scene, int way) {
            int people = 0;
            for (int unit = 0; unit < scene.told.people; unit++) {
                if (scene.told.isUnit(unit) && scene.told.comesBack(unit) && scene.isAt(unit, FAR)
                        && send(scene, unit, way) >= 0) {
                    people |= scene.told.peopleOf(unit);
                }
            }
            return people;
        }

        /** The same as sendOver, where some STONES bear just one and nobody knows. */
        int wadeOver(Scene scene, int way, int ones) {
            int people = 0;
            for (int unit = 0; unit < scene.told.people; unit++) {
                if (scene.told.isUnit(unit) && scene.isAt(unit, NEAR) && wade(scene, unit, way, ones)) {
                    people |= scene.told.peopleOf(unit);
                }
            }
            return people;
        }

        /** Whether the UNIT gets over. One that goes in stays where it was: a day is in thought, and it has gone once. */
        private boolean wade(Scene scene, int unit, int way, int ones) {
            int weight = scene.told.weightOf(unit);
            int size = ways.seek(scene, scene.told.strideOf(unit), weight, way, NEAR);
            if (size < 0) {
                return false;
            }
            for (int i = 0; i < size; i++) {
                int s = ways.row[i];
                if ((ones >> s & 1) != 0 && scene.borne[s] + weight > 1) {
                    scene.borne[s] = scene.told.bears[s];
                    return false;
                }
                scene.borne[s] += weight;
            }
            scene.settle(unit, FAR);
            return true;
        }

        boolean couldGo(Scene scene, int unit) {
            int stride = scene.told.strideOf(unit);
            return stride >= scene.told.wide
                    || ways.links.crosses(scene.openFor(scene.told.weightOf(unit)), stride);
        }
    }

    /** The BEST order of the UNITS at this bank. */
    private static final class Orders {
        private static final int DEEPEST = 6;

        int bestMust;
        int bestWorth;
        private final River told;
        private final Crossing crossing;
        private final Scene[] scenes = new Scene[DEEPEST + 1];
        private final int[] row = new int[DEEPEST];
        private final int[] bestRow = new int[DEEPEST];
        private int size;
        /** The WAY of the order that is held; NONE: none is, or all may have changed. */
        private int heldWay = NONE;

        Orders(Crossing crossing, River told) {
            this.crossing = crossing;
            this.told = told;
            for (int depth = 0; depth <= DEEPEST; depth++) {
                scenes[depth] = new Scene(told);
            }
        }

        void forget() {
            heldWay = NONE;
        }

        /** Whether there are few enough UNITS; then the BEST order is held. */
        boolean find(Scene scene, int way) {
            if (heldWay == way) {
                return true;
            }
            int units = 0;
            for (int unit = 0; unit < told.people; unit++) {
                if (told.isUnit(unit) && scene.isAt(unit, NEAR)) {
                    units |= 1 << unit;
                }
            }
            size = Integer.bitCount(units);
            if (size > DEEPEST) {
                return false;
            }
            bestMust = NONE;
            bestWorth = NONE;
            scenes[0].takeFrom(scene);
            extend(0, units, way, 0, 0);
            heldWay = way;
            return true;
        }

        int unitAt(int i) {
            return i >= 0 && i < size && i < DEEPEST ? bestRow[i] : NONE;
        }

        /** Rows come in their own order, so only a better one takes the place of one that is held. */
        private void extend(int depth, int units, int way, int must, int worth) {
            if (units == 0) {
                if (isBetter(must, worth)) {
                    bestMust = must;
                    bestWorth = worth;
                    System.arraycopy(row, 0, bestRow, 0, DEEPEST);
                }
                return;
            }
            if (depth >= DEEPEST || !couldBeBetter(scenes[depth], units, must, worth)) {
                return;
            }
            for (int rest = units; rest != 0; rest &= rest - 1) {
                int unit = Integer.numberOfTrailingZeros(rest);
                if (!hasTwin(units, unit)) {
                    row[depth] = unit;
                    Scene next = scenes[depth + 1];
                    next.takeFrom(scenes[depth]);
                    boolean gone = crossing.send(next, unit, way) >= 0;
                    extend(depth + 1, units & ~(1 << unit), way,
                            must + (gone && told.mustGo(unit) ? 1 : 0),
                            worth + (gone ? told.worthOf(told.peopleOf(unit)) : 0));
                }
            }
        }

        private boolean isBetter(int must, int worth) {
            return must > bestMust || must == bestMust && worth > bestWorth;
        }

        /** STONES only wear: a UNIT that can't go now can't go later, and no order gets more over than all who can. */
        private boolean couldBeBetter(Scene scene, int units, int must, int worth) {
            int mostMust = must;
            int mostWorth = worth;
            for (int rest = units; rest != 0; rest &= rest - 1) {
                int unit = Integer.numberOfTrailingZeros(rest);
                if (crossing.couldGo(scene, unit)) {
                    mostMust += told.mustGo(unit) ? 1 : 0;
                    mostWorth += told.worthOf(told.peopleOf(unit));
                }
            }
            return isBetter(mostMust, mostWorth);
        }

        /** Of two who are alike the lesser goes ahead: the other way round all is the same and the row is greater. */
        private boolean hasTwin(int units, int unit) {
            for (int other = 0; other < unit; other++) {
                if ((units >> other & 1) != 0 && told.strideOf(other) == told.strideOf(unit)
                        && told.weightOf(other) == told.weightOf(unit)
                        && told.mustGo(other) == told.mustGo(unit)
                        && told.worthOf(told.peopleOf(other)) == told.worthOf(told.peopleOf(unit))) {
                    return true;
                }
            }
            return false;
        }
    }

    /** SURE. */
    private static final class Doubts {
        private static final int MOST_DOUBTS = 4;

        private final Links links;
        private final int[] risky = new int[MOST_DOUBTS];
        private int size;

        Doubts(Links links) {
            this.links = links;
        }

        /** The greatest chance of a row: each choice of STONES in doubt that one dares to tread is tried. */
        long chance(Scene scene, int stride, int weight) {
            if (stride >= scene.told.wide) {
                return CERTAIN;
            }
            int open = scene.openFor(weight);
            gather(scene, open, weight);
            long best = 0;
            for (int dared = 0; dared < 1 << size; dared++) {
                long holds = CERTAIN;
                int allowed = open;
                for (int i = 0; i < size; i++) {
                    if ((dared >> i & 1) != 0) {
                        holds = holds * (100 - scene.told.doubt[risky[i]]) / 100;
                    } else {
                        allowed &= ~(1 << risky[i]);
                    }
                }
                if (holds > best && links.crosses(allowed, stride)) {
                    best = holds;
                }
            }
            return best;
        }

        private void gather(Scene scene, int open, int weight) {
            size = 0;
            for (int s = 0; s < scene.told.stones && size < MOST_DOUBTS; s++) {
                if ((open >> s & 1) != 0 && scene.inDoubt(s) && scene.borne[s] + weight > 1) {
                    risky[size] = s;
                    size++;
                }
            }
        }
    }

    /** STONES, what links them and how many go over each; STONE 24 is the one that is told in thought. */
    private static final class Net {
        static final int SPOTS = STONES + 1;

        int near;
        int far;
        int most;
        /** The STONES to which one more could come when no more gets over, and those from which. */
        int entered;
        int left;
        final int[] next = new int[SPOTS];
        final int[] bears = new int[SPOTS];
        final int[] through = new int[SPOTS];
        /** How many go from a STONE straight to another one. */
        final int[] between = new int[SPOTS * SPOTS];
        /** From which STONES some go straight to this one, as bits. */
        final int[] givers = new int[SPOTS];

        void takeFrom(Net other) {
            near = other.near;
            far = other.far;
            most = other.most;
            entered = other.entered;
            left = other.left;
            System.arraycopy(other.next, 0, next, 0, SPOTS);
            System.arraycopy(other.bears, 0, bears, 0, SPOTS);
            System.arraycopy(other.through, 0, through, 0, SPOTS);
            System.arraycopy(other.between, 0, between, 0, SPOTS * SPOTS);
            System.arraycopy(other.givers, 0, givers, 0, SPOTS);
        }

        void empty() {
            most = 0;
            entered = 0;
            left = 0;
            Arrays.fill(through, 0);
            Arrays.fill(between, 0);
            Arrays.fill(givers, 0);
        }

        boolean canLeave(int place) {
            return place == NEAR || place < SPOTS && (left >> place & 1) != 0;
        }

        boolean canEnter(int place) {
            return place == NEAR || place < SPOTS && (entered >> place & 1) != 0;
        }

        void pass(int from, int to, int by) {
            int pair = from * SPOTS + to;
            between[pair] += by;
            if (between[pair] > 0) {
                givers[to] |= 1 << from;
            } else {
                givers[to] &= ~(1 << from);
            }
        }
    }

    /** How many WAYS there can be at once: a STONE has an entry and an exit, between which it bears so many. */
    private static final class Flow {
        private static final int SPOTS = Net.SPOTS;
        /** From where an entry or an exit was come to: this bank, or the other one of the same STONE. */
        private static final int BANK = -1;
        private static final int SELF = -2;
        /** In the queue exits are told from entries by this. */
        private static final int EXIT = 32;
        /** No chain of entries and exits is as long. */
        private static final int LONGEST = 2 * SPOTS + 2;

        private final Links links;
        private final Net net = new Net();
        private final Net saved = new Net();
        private final int[] entryFrom = new int[SPOTS];
        private final int[] exitFrom = new int[SPOTS];
        private final int[] queue = new int[2 * SPOTS];
        private int queued;
        private int stride;

        Flow(Links links) {
            this.links = links;
        }

        void lay(Scene scene, int byStride, int weight) {
            stride = byStride;
            net.empty();
            net.near = links.near[stride];
            net.far = links.far[stride];
            Arrays.fill(net.next, 0);
            Arrays.fill(net.bears, 0);
            for (int s = 0; s < scene.told.stones; s++) {
                net.next[s] = links.next[stride * STONES + s];
                net.bears[s] = weight > 0 ? scene.leftOf(s) / weight : 0;
            }
        }

        void save() {
            saved.takeFrom(net);
        }

        void restore() {
            net.takeFrom(saved);
        }

        void lift(int stone) {
            int others = ~(1 << stone);
            net.near &= others;
            net.far &= others;
            for (int s = 0; s < SPOTS; s++) {
                net.next[s] &= others;
            }
            net.next[stone] = 0;
            net.bears[stone] = 0;
        }

        void put(River told, int spot, int x, int y, int bears) {
            int around = around(told, x, y) & ~(1 << spot);
            net.next[spot] = around;
            net.bears[spot] = bears;
            for (int rest = around; rest != 0; rest &= rest - 1) {
                net.next[Integer.numberOfTrailingZeros(rest)] |= 1 << spot;
            }
            if (y <= stride) {
                net.near |= 1 << spot;
            }
            if (told.wide - y <= stride) {
                net.far |= 1 << spot;
            }
        }

        private int around(River told, int x, int y) {
            int bits = 0;
            for (int s = 0; s < told.stones; s++) {
                int along = told.x[s] - x;
                int across = told.y[s] - y;
                if (along * along + across * across <= stride * stride) {
                    bits |= 1 << s;
                }
            }
            return bits;
        }

        /** Two PLACES, not both banks. */
        void join(int a, int b) {
            int first = Math.min(a, b);
            int second = Math.max(a, b);
            if (second == NEAR) {
                net.near |= 1 << first;
            } else if (second == FAR) {
                net.far |= 1 << first;
            } else {
                net.next[first] |= 1 << second;
                net.next[second] |= 1 << first;
            }
        }

        /** A link lets more over only where it goes from what one more could leave to what he could not enter. */
        boolean linkHelps(int a, int b) {
            return saved.canLeave(a) && !saved.canEnter(b) || saved.canLeave(b) && !saved.canEnter(a);
        }

        boolean stoneHelps(River told, int x, int y) {
            int around = around(told, x, y);
            boolean isEntered = y <= stride || (around & saved.left) != 0;
            return isEntered && (told.wide - y <= stride || (around & ~saved.entered) != 0);
        }

        /** More and more go over till there is no room: how many. */
        int fill() {
            for (int k = 0; k < UNBOUND; k++) {
                int last = search();
                if (last == NONE) {
                    break;
                }
                int by = narrowest(last);
                push(last, by);
                net.most += by;
            }
            return net.most;
        }

        int barring() {
            return net.entered & ~net.left;
        }

        /** The STONE from which one more comes to the far bank; NONE: he does not. */
        private int search() {
            net.entered = 0;
            net.left = 0;
            queued = 0;
            enter(net.near, BANK);
            for (int k = 0; k < queued && k < queue.length; k++) {
                int s = queue[k] & EXIT - 1;
                if (queue[k] < EXIT) {
                    if (net.through[s] < net.bears[s]) {
                        leave(1 << s, SELF);
                    }
                    leave(net.givers[s], s);
                } else {
                    if ((net.far >> s & 1) != 0) {
                        return s;
                    }
                    enter(net.next[s], s);
                    if (net.through[s] > 0) {
                        enter(1 << s, SELF);
                    }
                }
            }
            return NONE;
        }

        private void enter(int stones, int from) {
            int come = stones & ~net.entered;
            net.entered |= come;
            for (int rest = come; rest != 0; rest &= rest - 1) {
                int s = Integer.numberOfTrailingZeros(rest);
                entryFrom[s] = from;
                queue[queued] = s;
                queued++;
            }
        }

        private void leave(int stones, int from) {
            int come = stones & ~net.left;
            net.left |= come;
            for (int rest = come; rest != 0; rest &= rest - 1) {
                int s = Integer.numberOfTrailingZeros(rest);
                exitFrom[s] = from;
                queue[queued] = s + EXIT;
                queued++;
            }
        }

        /** How many can go by the chain that was found, looked at from its end. */
        private int narrowest(int last) {
            int by = UNBOUND;
            int s = last;
            boolean isExit = true;
            for (int k = 0; k < LONGEST && (isExit || entryFrom[s] != BANK); k++) {
                int from = isExit ? exitFrom[s] : entryFrom[s];
                if (from == SELF) {
                    by = Math.min(by, isExit ? net.bears[s] - net.through[s] : net.through[s]);
                } else {
                    by = isExit ? Math.min(by, net.between[s * SPOTS + from]) : by;
                    s = from;
                }
                isExit = !isExit;
            }
            return by;
        }

        /** An exit that was come to from another STONE's entry: so many go there no more, but elsewhere. */
        private void push(int last, int by) {
            int s = last;
            boolean isExit = true;
            for (int k = 0; k < LONGEST && (isExit || entryFrom[s] != BANK); k++) {
                int from = isExit ? exitFrom[s] : entryFrom[s];
                if (from == SELF) {
                    net.through[s] += isExit ? by : -by;
                } else {
                    if (isExit) {
                        net.pass(s, from, -by);
                    } else {
                        net.pass(from, s, by);
                    }
                    s = from;
                }
                isExit = !isExit;
            }
        }
    }

    /** Reads a text as a RIVER, up to the first FAULT. */
    private static final class Reader {
        private static final int END = 0;
        private static final int WORD = 1;
        private static final int NUMBER = 2;
        private static final int SIGN = 3;
        private static final int WRONG = 4;
        /** More than any number may be; greater ones are held as this. */
        private static final int TOO_GREAT = 1000;

        final River told = new River();
        int fault;
        int place;
        private byte[] text = new byte[0];
        private int size;
        private int begin;
        private int stop;
        private int kind;
        private int value;
        private int doubts;
        private boolean hasPlank;

        void readAll(byte[] tape, int n) {
            text = tape;
            size = Math.min(n, tape.length);
            told.clear();
            fault = 0;
            place = NONE;
            stop = 0;
            doubts = 0;
            hasPlank = false;
            advance();
            for (int k = 0; k < TAPE_SIZE && fault == 0 && kind != END; k++) {
                readLine();
            }
        }

        private void readLine() {
            boolean isFirst = told.lines == 0;
            if (isFirst != isWord("river")) {
                refuse(1);
            } else if (isFirst) {
                readWater();
            } else if (isWord("stone")) {
                readStone();
            } else if (isWord("person")) {
                readPerson();
            } else if (isWord("plank")) {
                readPlank();
            } else {
                refuse(1);
            }
            if (fault == 0 && kind != SIGN) {
                refuse(1);
            }
            if (fault == 0) {
                advance();
                told.lines++;
            }
        }

        private void readWater() {
            advance();
            told.wide = readPair("wide", 2, 12);
            told.span = readPair("long", 1, 20);
        }

        private void readStone() {
            int s = told.stones;
            if (s >= STONES) {
                refuse(3);
                return;
            }
            advance();
            told.x[s] = readPair("at", 0, told.span - 1);
            if (fault == 0 && kind == NUMBER && told.stoneAt(told.x[s], value) != NONE) {
                refuse(2);
            }
            told.y[s] = readNumber(1, told.wide - 1);
            told.bears[s] = readPair("bears", 1, 9);
            told.sinks[s] = isWord("sinks") ? readPair("sinks", 1, 23) : 0;
            if (fault == 0 && isWord("doubt") && doubts >= 4) {
                refuse(2);
            }
            told.doubt[s] = isWord("doubt") ? readPair("doubt", 1, 99) : 0;
            doubts += told.doubt[s] > 0 ? 1 : 0;
            told.stones++;
        }

        private void readPerson() {
            int p = told.people;
            if (p >= PEOPLE) {
                refuse(3);
                return;
            }
            advance();
            told.stride[p] = readPair("stride", 1, 9);
            told.weight[p] = readPair("weight", 1, 3);
            told.worth[p] = readPair("worth", 0, 99);
            told.must |= readFlag("must") ? 1 << p : 0;
            told.returns |= readFlag("back") ? 1 << p : 0;
            told.hand[p] = NONE;
            if (isWord("hand")) {
                readHand(p);
            }
            told.people++;
        }

        private void readHand(int p) {
            readFlag("hand");
            if (fault == 0 && kind == NUMBER && value < p && told.hand[value] != NONE) {
                refuse(2);
            }
            int partner = readNumber(0, p - 1);
            if (fault == 0 && partner >= 0 && partner < p) {
                told.hand[p] = partner;
                told.hand[partner] = p;
            }
        }

        private void readPlank() {
            if (hasPlank) {
                refuse(2);
            }
            hasPlank = true;
            told.plank = readPair("plank", 1, 9);
        }

        /** A word and a number; behind a FAULT nothing is read any more. */
        private int readPair(String word, int lowest, int highest) {
            if (!readFlag(word)) {
                refuse(1);
            }
            return readNumber(lowest, highest);
        }

        private boolean readFlag(String word) {
            if (fault != 0 || !isWord(word)) {
                return false;
            }
            advance();
            return true;
        }

        private int readNumber(int lowest, int highest) {
            int number = value;
            if (kind != NUMBER) {
                refuse(1);
            } else if (number < lowest || number > highest) {
                refuse(2);
            }
            if (fault != 0) {
                return 0;
            }
            advance();
            return number;
        }

        private void refuse(int as) {
            if (fault == 0) {
                fault = as;
                place = begin;
            }
        }

        private boolean isWord(String word) {
            if (kind != WORD || stop - begin != word.length()) {
                return false;
            }
            for (int i = 0; i < word.length(); i++) {
                if (text[begin + i] != word.charAt(i)) {
                    return false;
                }
            }
            return true;
        }

        /** The next TOKEN is from begin to stop. */
        private void advance() {
            begin = stop;
            while (begin < size && (text[begin] == ' ' || text[begin] == '\n')) {
                begin++;
            }
            stop = begin;
            value = 0;
            if (begin >= size) {
                kind = END;
            } else if (isLetter(text[begin])) {
                kind = WORD;
                while (stop < size && isLetter(text[stop])) {
                    stop++;
                }
            } else if (isDigit(text[begin])) {
                kind = NUMBER;
                while (stop < size && isDigit(text[stop])) {
                    value = Math.min(TOO_GREAT, 10 * value + text[stop] - '0');
                    stop++;
                }
            } else {
                kind = text[begin] == ';' ? SIGN : WRONG;
                stop++;
            }
        }

        private static boolean isLetter(byte sign) {
            return sign >= 'a' && sign <= 'z';
        }

        private static boolean isDigit(byte sign) {
            return sign >= '0' && sign <= '9';
        }
    }

    /** What a SLOT has. */
    private static final class Row {
        boolean there;
        int width;
        int size;
        final long[] numbers = new long[ROW_SIZE];

        void clear(int ofWidth, int n) {
            there = true;
            width = ofWidth;
            size = n;
            Arrays.fill(numbers, 0);
        }

        boolean put(int i, long v) {
            if (i < 0 || i >= size) {
                return false;
            }
            int spare = 64 - (8 << width);
            numbers[i] = v << spare >> spare;
            return true;
        }

        boolean has(int i, int n) {
            return i >= 0 && n >= 0 && (long) i + n <= size;
        }

        boolean allBelow(int bound) {
            for (int i = 0; i < size; i++) {
                if (numbers[i] < 0 || numbers[i] >= bound) {
                    return false;
                }
            }
            return true;
        }

        /** The numbers as bits; asked only of rows that allBelow has found to be STONES. */
        int stones() {
            int bits = 0;
            for (int i = 0; i < size; i++) {
                bits |= 1 << (int) numbers[i];
            }
            return bits;
        }

        /** Whether one who goes by another row, so many minutes later, is ever on one STONE with one who goes by this. */
        boolean meets(Row later, int minutes) {
            for (int i = 0; i < later.size && i + minutes < size; i++) {
                if (numbers[i + minutes] == later.numbers[i]) {
                    return true;
                }
            }
            return false;
        }
    }
}
