import java.util.ArrayList;
import java.util.List;
import java.util.Random;

/** Calls drawn from fixed seeds, on BearsTwo and on the Model: every answer must be the same. */
public final class CrossCheckTest {
  private static int wrong = 0;

  private final Random random;
  private final Rivers rivers;
  private final BearsTwo x = new BearsTwo();
  private final Model m = new Model();
  private final List<String> history = new ArrayList<>();
  private final int seed;
  private final int size;
  private int calls = 0;

  private CrossCheckTest(int seed, int size) {
    this.seed = seed;
    this.size = size;
    random = new Random(seed);
    rivers = new Rivers(random);
  }

  private int in(int low, int high) { return low + random.nextInt(high - low + 1); }

  private boolean one(int of) { return random.nextInt(of) == 0; }

  /** Mostly within the bounds, now and then just beyond or far away. */
  private int near(int low, int high) {
    if (!one(12)) return in(low, Math.max(low, high));
    switch (random.nextInt(4)) {
      case 0: return low - 1;
      case 1: return high + 1;
      case 2: return one(2) ? Integer.MAX_VALUE : Integer.MIN_VALUE;
      default: return random.nextInt();
    }
  }

  private int place() { return one(4) ? 98 : one(3) ? 99 : near(0, m.w.stones.size() - 1); }

  private int stride() { return one(3) ? near(1, 9) : near(1, 3); }

  private void due(String call, long got, long want) {
    calls++;
    history.add(call + " = " + want);
    if (got != want) {
      wrong++;
      if (wrong <= 5) {
        System.out.println("seed " + seed + ": " + call + " answered " + got + ", the model " + want);
        for (String line : history) System.out.println("    " + line);
      }
    }
  }

  private void tell(String text) {
    while (text.length() > 1600) text = text.substring(0, text.length() - 1);
    String padded = text + "\0".repeat((20 - text.length() % 20) % 20);
    if (one(8) && text.length() < 1000) padded += "x".repeat(20);
    history.add("text: " + text.replace("\n", "\\n"));
    for (int i = 0; i < padded.length(); i += 20) {
      int[] v = new int[5];
      for (int k = 0; k < 20; k++) v[k / 4] = v[k / 4] << 8 | padded.charAt(i + k);
      due("feed", x.feed(v[0], v[1], v[2], v[3], v[4]), m.feed(v));
    }
    due("end", x.end(text.length()), m.end(text.length()));
    due("river", x.river(), m.river());
    due("fault(0)", x.fault(0), m.fault(0));
    due("fault(1)", x.fault(1), m.fault(1));
  }

  private void run() {
    while (calls < 410) {
      if (calls == 0 || one(60)) {
        if (one(3)) tell(one(5) ? rivers.crowded() : rivers.faulty(size, in(0, 6)));
        tell(size == 24 && one(2) ? rivers.full() : one(2) ? rivers.tight(in(1, 8)) : rivers.sound(in(0, size), in(0, 8)));
        if (one(2)) due("row(0, 1, 7)", x.row(0, 1, 7), m.row(0, 1, 7));
        if (one(2)) due("row(3, 1, 10)", x.row(3, 1, 10), m.row(3, 1, 10));
      }
      draw();
    }
    for (int s = 0; s < m.w.stones.size(); s++)
      for (int what = 0; what < 5; what++) due("stone " + s + " " + what, x.stone(s, what), m.stone(s, what));
    for (int p = 0; p < m.w.people.size(); p++)
      for (int what = 0; what < 3; what++) due("person " + p + " " + what, x.person(p, what), m.person(p, what));
  }

  /** Flows alone, where they are hardest. */
  private void runDeep(String text) {
    tell(text);
    for (int a = 1; a <= 3; a++) {
      int n = m.w.stones.size();
      for (int weight = 1; weight <= 2; weight++) {
        due("most(" + a + ", " + weight + ")", x.most(a, weight), m.most(a, weight));
        due("cut(" + a + ", " + weight + ")", x.cut(a, weight), m.cut(a, weight));
      }
      for (int b = 1; b <= 3; b += 2) due("where(" + b + ", " + a + ")", x.where(b, a), m.where(b, a));
      due("planks(" + a + ")", x.planks(a), m.planks(a));
      for (int way = 0; way < 4; way++) {
        due("alike(" + a + ", 1, " + way + ")", x.alike(a, 1, way), m.alike(a, 1, way));
        due("price(" + a + ", " + a + ", " + way + ")", x.price(a, a, way), m.price(a, a, way));
      }
      for (int k = 0; k < 4; k++) {
        int s = in(0, n - 1), t = in(0, n - 1), at = in(0, m.w.len - 1), y = in(1, m.w.wide - 1);
        due("bars(" + s + ", " + a + ", 1)", x.bars(s, a, 1), m.bars(s, a, 1));
        due("move(" + s + ", " + a + ")", x.move(s, a), m.move(s, a));
        due("more(" + at + ", " + y + ", 2, " + a + ")", x.more(at, y, 2, a), m.more(at, y, 2, a));
        due("plank(" + s + ", " + t + ", " + a + ")", x.plank(s, t, a), m.plank(s, t, a));
      }
    }
  }

  private void draw() {
    int s = near(0, m.w.stones.size() - 1), p = near(0, m.w.people.size() - 1), way = near(0, 3), a = stride();
    int weight = one(2) ? 1 : near(1, 6), slot = near(0, 3), other = near(0, 3), what;
    switch (random.nextInt(60)) {
      case 0: due("end", x.end(what = near(0, 20)), m.end(what)); break;
      case 1: due("fault", x.fault(what = near(0, 1)), m.fault(what)); break;
      case 2: due("stone(" + s + ", " + (what = near(0, 4)) + ")", x.stone(s, what), m.stone(s, what)); break;
      case 3: due("person(" + p + ", " + (what = near(0, 2)) + ")", x.person(p, what), m.person(p, what)); break;
      case 4: { int f = place(), t = place(); due("may(" + f + ", " + t + ", " + a + ")", x.may(f, t, a), m.may(f, t, a)); break; }
      case 5: due("reach(" + a + ")", x.reach(a), m.reach(a)); break;
      case 6: due("hour(" + (what = near(0, 23)) + ")", x.hour(what), m.hour(what)); break;
      case 7: case 8: due("fresh()", x.fresh(), m.fresh()); break;
      case 9: due("length(" + a + ", " + weight + ", " + way + ")", x.length(a, weight, way), m.length(a, weight, way)); break;
      case 10: case 11: {
        for (int i = -1; i < 6; i++) due("path(" + a + ", " + weight + ", " + way + ", " + i + ")", x.path(a, weight, way, i), m.path(a, weight, way, i));
        break;
      }
      case 12: case 13: case 14: { int t = place(); due("step(" + p + ", " + t + ")", x.step(p, t), m.step(p, t)); break; }
      case 15: due("judge(" + slot + ")", x.judge(slot), m.judge(slot)); break;
      case 16: due("ends(" + slot + ", " + p + ")", x.ends(slot, p), m.ends(slot, p)); break;
      case 17: case 18: case 19: due("go(" + p + ", " + way + ")", x.go(p, way), m.go(p, way)); break;
      case 20: due("over(" + way + ", " + (what = near(0, 3)) + ")", x.over(way, what), m.over(way, what)); break;
      case 21: if (one(3)) due("all(" + way + ")", x.all(way), m.all(way)); break;
      case 22: if (size < 10 || one(4)) for (what = 0; what < (size < 10 ? 8 : 3); what++) due("order(" + way + ", " + what + ")", x.order(way, what), m.order(way, what)); break;
      case 23: if (size < 10 || one(4)) due("gap(" + way + ")", x.gap(way), m.gap(way)); break;
      case 24: due("home(" + way + ")", x.home(way), m.home(way)); break;
      case 25: due("days(" + way + ")", x.days(way), m.days(way)); break;
      case 26: due("best()", x.best(), m.best()); break;
      case 27: due("most(" + a + ", " + weight + ")", x.most(a, weight), m.most(a, weight)); break;
      case 28: due("cut(" + a + ", " + weight + ")", x.cut(a, weight), m.cut(a, weight)); break;
      case 29: due("bars(" + s + ", " + a + ", " + weight + ")", x.bars(s, a, weight), m.bars(s, a, weight)); break;
      case 30: due("alike(" + a + ", " + weight + ", " + way + ")", x.alike(a, weight, way), m.alike(a, weight, way)); break;
      case 31: { int b = near(1, 9), at = near(0, m.w.len - 1), y = near(1, m.w.wide - 1); due("more(" + at + ", " + y + ", " + b + ", " + a + ")", x.more(at, y, b, a), m.more(at, y, b, a)); break; }
      case 32: { int b = near(1, 9); due("where(" + b + ", " + a + ")", x.where(b, a), m.where(b, a)); break; }
      case 33: due("moved(" + s + ", " + (what = near(0, 4)) + ", " + a + ")", x.moved(s, what, a), m.moved(s, what, a)); break;
      case 34: due("move(" + s + ", " + a + ")", x.move(s, a), m.move(s, a)); break;
      case 35: { int f = place(), t = place(); due("plank(" + f + ", " + t + ", " + a + ")", x.plank(f, t, a), m.plank(f, t, a)); break; }
      case 36: if (size < 10 || one(2)) due("planks(" + a + ")", x.planks(a), m.planks(a)); break;
      case 37: { boolean b = one(2); due("know(" + s + ", " + b + ")", x.know(s, b), m.know(s, b)); break; }
      case 38: due("sure(" + a + ", " + weight + ")", x.sure(a, weight), m.sure(a, weight)); break;
      case 39: {
        due("tread(" + s + ", " + a + ", " + weight + ")", x.tread(s, a, weight), m.tread(s, a, weight));
        for (int t = 0; t < m.w.stones.size(); t++) {
          int v = in(1, 3);
          if (m.stone(t, 4) == -1) due("tread(" + t + ", " + 1 + ", " + v + ")", x.tread(t, 1, v), m.tread(t, 1, v));
          if (m.stone(t, 4) == -1) due("tread(" + t + ", " + 2 + ", " + v + ")", x.tread(t, 2, v), m.tread(t, 2, v));
        }
        break;
      }
      case 40: due("first(" + a + ", " + weight + ")", x.first(a, weight), m.first(a, weight)); break;
      case 41: { int d = stride(); due("price(" + a + ", " + d + ", " + way + ")", x.price(a, d, way), m.price(a, d, way)); break; }
      case 42: { int d = stride(); due("keep(" + a + ", " + d + ")", x.keep(a, d), m.keep(a, d)); break; }
      case 43: due("late(" + a + ", " + (what = near(0, 23)) + ")", x.late(a, what), m.late(a, what)); break;
      case 44: { int n = one(4) ? near(0, 999) : near(0, 6); due("noon(" + a + ", " + n + ")", x.noon(a, n), m.noon(a, n)); break; }
      case 45: due("waits(" + slot + ", " + other + ")", x.waits(slot, other), m.waits(slot, other)); break;
      case 46: due("cross(" + slot + ", " + other + ")", x.cross(slot, other), m.cross(slot, other)); break;
      case 47: { int seeds = near(0, 2000000000); due("run(" + seeds + ", " + way + ")", x.run(seeds, way), m.run(seeds, way)); break; }
      case 48: {
        int seeds = one(4) ? 2000000000 : near(0, 2000000000), n = one(6) ? near(1, 60) : near(1, 5);
        for (what = 0; what < 3; what++) due("runs(" + seeds + ", " + n + ", " + way + ", " + what + ")", x.runs(seeds, n, way, what), m.runs(seeds, n, way, what));
        due("runs(.., " + (what = near(0, 2)) + ")", x.runs(seeds, n, way, what), m.runs(seeds, n, way, what));
        break;
      }
      case 49: due("count(" + (what = near(0, 11)) + ")", x.count(what), m.count(what)); break;
      case 50: due("image(" + slot + ")", x.image(slot), m.image(slot)); break;
      case 51: due("back(" + slot + ")", x.back(slot), m.back(slot)); break;
      default: slots(slot, other);
    }
  }

  private void slots(int slot, int other) {
    int i = near(0, 5), k = near(0, 5), n = near(0, 4);
    switch (random.nextInt(6)) {
      case 0: { int width = near(0, 3), count = one(5) ? near(0, 60) : near(0, 12); due("row(" + slot + ", " + width + ", " + count + ")", x.row(slot, width, count), m.row(slot, width, count)); break; }
      case 1: due("paste(" + slot + ", " + i + ", " + other + ", " + k + ", " + n + ")", x.paste(slot, i, other, k, n), m.paste(slot, i, other, k, n)); break;
      default: {
        if (slot < 0 || slot > 3 || m.slots[slot] == null) break;
        boolean steps = one(2);
        for (int j = 0; j < m.slots[slot].length && j < 14; j++) {
          long v = steps ? j % 2 == 0 ? in(0, Math.max(0, m.w.people.size() - 1)) : place() : in(0, Math.max(0, m.w.stones.size() - 1));
          if (one(20)) v += 256L << 8 * random.nextInt(6);
          if (one(40)) v = random.nextLong();
          int at = one(30) ? near(0, 60) : j;
          due("write(" + slot + ", " + at + ", " + v + ")", x.write(slot, at, v), m.write(slot, at, v));
        }
      }
    }
  }

  public static void main(String[] args) {
    int rounds = args.length > 0 ? Integer.parseInt(args[0]) : 300;
    long all = 0;
    for (int seed = 0; seed < rounds; seed++) {
      int[] sizes = {6, 8, 8, 12, 24};
      CrossCheckTest test = new CrossCheckTest(seed, sizes[seed % sizes.length]);
      test.run();
      CrossCheckTest deep = new CrossCheckTest(seed, 24);
      deep.runDeep(seed < Rivers.hardOnes() ? Rivers.hard(seed) : deep.rivers.deep());
      all += test.calls + deep.calls;
    }
    System.out.println(wrong == 0 ? all + " answers are as the model's" : wrong + " answers are not as the model's");
    if (wrong != 0) System.exit(1);
  }
}
