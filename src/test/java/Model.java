import java.util.ArrayList;
import java.util.Arrays;
import java.util.Collections;
import java.util.HashSet;
import java.util.List;
import java.util.Set;
import java.util.regex.Matcher;
import java.util.regex.Pattern;

/**
 * The document once more, as plainly as can be and by other means than BearsTwo: every row of a small
 * river is tried, every order, every flow from nothing. The cross-check holds the two against one another.
 */
final class Model {
  static final class Stone implements Cloneable {
    int x, y, bears, sinks, doubt, borne;
    Boolean one;
    Stone copy() {
      try { return (Stone) clone(); } catch (CloneNotSupportedException e) { throw new IllegalStateException(e); }
    }
  }
  static final class Person implements Cloneable {
    int stride, weight, worth, hand = -1, place = 98;
    boolean must, back;
    Person copy() {
      try { return (Person) clone(); } catch (CloneNotSupportedException e) { throw new IllegalStateException(e); }
    }
  }
  static final class World {
    int lines, wide, len, plank, hour;
    List<Stone> stones = new ArrayList<>();
    List<Person> people = new ArrayList<>();
    World copy() {
      World w = new World();
      w.lines = lines; w.wide = wide; w.len = len; w.plank = plank; w.hour = hour;
      for (Stone s : stones) w.stones.add(s.copy());
      for (Person p : people) w.people.add(p.copy());
      return w;
    }
    int left(int s) {
      Stone t = stones.get(s);
      if (t.sinks != 0 && hour >= t.sinks) return 0;
      int b = Boolean.TRUE.equals(t.one) ? 1 : t.bears;
      return Math.max(b - t.borne, 0);
    }
    boolean place(int p) { return lines > 0 && (p == 98 || p == 99 || (p >= 0 && p < stones.size())); }
    double distance(int a, int b) {
      if (a > b) return distance(b, a);
      if (a == 98) return wide;
      if (b == 98) return stones.get(a).y;
      if (b == 99) return wide - stones.get(a).y;
      return Math.hypot(stones.get(a).x - stones.get(b).x, stones.get(a).y - stones.get(b).y);
    }
    boolean link(int a, int b, int stride) { return a != b && distance(a, b) <= stride + 1e-9; }
    int at(int x, int y) {
      for (int s = 0; s < stones.size(); s++) if (stones.get(s).x == x && stones.get(s).y == y) return s;
      return -1;
    }
    Set<Integer> reach(int stride) {
      Set<Integer> found = new HashSet<>();
      boolean grew = true;
      while (grew) {
        grew = false;
        for (int s = 0; s < stones.size(); s++) {
          if (found.contains(s) || left(s) == 0) continue;
          boolean can = link(98, s, stride);
          for (int t : found) can |= link(t, s, stride);
          if (can) { found.add(s); grew = true; }
        }
      }
      return found;
    }
    List<int[]> units() {
      List<int[]> all = new ArrayList<>();
      for (int p = 0; p < people.size(); p++) {
        int h = people.get(p).hand;
        if (h < 0) all.add(new int[] {p});
        else if (h > p) all.add(new int[] {p, h});
      }
      return all;
    }
    int[] unit(int number) {
      for (int[] u : units()) if (u[0] == number) return u;
      return null;
    }
    int bank(int[] u) {
      int at = people.get(u[0]).place;
      for (int p : u) if (people.get(p).place != at) return -1;
      return at == 98 || at == 99 ? at : -1;
    }
    int stride(int[] u) { return Arrays.stream(u).map(p -> people.get(p).stride).min().getAsInt(); }
    int weight(int[] u) { return Arrays.stream(u).map(p -> people.get(p).weight).sum(); }
    int worth(int[] u) { return Arrays.stream(u).map(p -> people.get(p).worth).sum(); }
    boolean must(int[] u) { return Arrays.stream(u).anyMatch(p -> people.get(p).must); }
    boolean back(int[] u) { return Arrays.stream(u).anyMatch(p -> people.get(p).back); }
    int cost(int s, int way) {
      if (way == 0) return 1;
      if (way == 2) return left(s);
      if (way == 3) return 10 - left(s);
      int sum = 1;
      for (Person p : people) if (reach(p.stride).contains(s)) sum++;
      return sum;
    }
    /** The row by a WAY; null without one. Each STONE's best rest is found again and again till nothing gets better. */
    List<Integer> way(int stride, int weight, int way, int from) {
      int to = from == 98 ? 99 : 98;
      if (stride >= wide) return new ArrayList<>();
      int n = stones.size();
      int[] cost = new int[n];
      for (int s = 0; s < n; s++) cost[s] = cost(s, way);
      List<List<Integer>> best = new ArrayList<>(Collections.nCopies(n, null));
      boolean better = true;
      while (better) {
        better = false;
        for (int s = 0; s < n; s++) {
          if (left(s) < weight) continue;
          List<Integer> mine = best.get(s);
          if (link(s, to, stride)) mine = less(cost, mine, List.of(s));
          for (int t = 0; t < n; t++) {
            if (t == s || best.get(t) == null || best.get(t).contains(s) || !link(s, t, stride)) continue;
            List<Integer> row = new ArrayList<>(List.of(s));
            row.addAll(best.get(t));
            mine = less(cost, mine, row);
          }
          if (mine != null && !mine.equals(best.get(s))) { best.set(s, mine); better = true; }
        }
      }
      List<Integer> row = null;
      for (int s = 0; s < n; s++) if (best.get(s) != null && link(from, s, stride)) row = less(cost, row, best.get(s));
      return row;
    }
    private static List<Integer> less(int[] cost, List<Integer> a, List<Integer> b) {
      if (a == null) return b;
      int ca = a.stream().mapToInt(s -> cost[s]).sum(), cb = b.stream().mapToInt(s -> cost[s]).sum();
      if (ca != cb) return ca < cb ? a : b;
      if (a.size() != b.size()) return a.size() < b.size() ? a : b;
      for (int i = 0; i < a.size(); i++) if (!a.get(i).equals(b.get(i))) return a.get(i) < b.get(i) ? a : b;
      return a;
    }
    /** The same by trying every row; for small rivers. */
    List<Integer> everyWay(int stride, int weight, int way, int from) {
      if (stride >= wide) return new ArrayList<>();
      int[] cost = new int[stones.size()];
      for (int s = 0; s < cost.length; s++) cost[s] = cost(s, way);
      List<List<Integer>> rows = new ArrayList<>();
      rows(stride, weight, from, from == 98 ? 99 : 98, new ArrayList<>(), rows);
      List<Integer> best = null;
      for (List<Integer> row : rows) best = less(cost, best, row);
      return best;
    }
    void rows(int stride, int weight, int at, int to, List<Integer> row, List<List<Integer>> rows) {
      if (!row.isEmpty() && link(at, to, stride)) rows.add(new ArrayList<>(row));
      for (int s = 0; s < stones.size(); s++) {
        if (row.contains(s) || left(s) < weight || !link(at, s, stride)) continue;
        row.add(s);
        rows(stride, weight, s, to, row, rows);
        row.remove(row.size() - 1);
      }
    }
    int send(int[] u, int way) {
      int from = bank(u);
      if (from < 0) return -5;
      List<Integer> row = way(stride(u), weight(u), way, from);
      if (row == null) return -5;
      for (int s : row) stones.get(s).borne += weight(u);
      for (int p : u) people.get(p).place = 197 - from;
      return row.size();
    }
    List<int[]> over(int way) {
      List<int[]> gone = new ArrayList<>();
      for (int[] u : units()) if (bank(u) == 98 && send(u, way) >= 0) gone.add(u);
      return gone;
    }
    int missing() {
      int bits = 0;
      for (int[] u : units()) if (must(u) && bank(u) != 99) bits |= 1 << u[0];
      return bits;
    }
    /** Nodes: 2 s the entry of a STONE, 2 s + 1 its exit, then the banks. Answers MOST, and puts what is reached. */
    int most(int stride, int weight, int a, int b, Set<Integer> cut) {
      boolean planked = a >= 0;
      if (stride >= wide || planked && Math.min(a, b) == 98) return 999;
      int n = stones.size(), from = 2 * n, to = 2 * n + 1;
      int[][] room = new int[2 * n + 2][2 * n + 2];
      for (int s = 0; s < n; s++) {
        room[2 * s][2 * s + 1] = left(s) / weight;
        if (link(98, s, stride) || planked && pair(a, b, 98, s)) room[from][2 * s] = 10000;
        if (link(99, s, stride) || planked && pair(a, b, 99, s)) room[2 * s + 1][to] = 10000;
        for (int t = 0; t < n; t++)
          if (link(s, t, stride) || planked && pair(a, b, s, t)) room[2 * s + 1][2 * t] = 10000;
      }
      int most = 0;
      while (true) {
        boolean[] seen = new boolean[2 * n + 2];
        if (!push(room, seen, from, to)) {
          if (cut != null) for (int s = 0; s < n; s++) if (seen[2 * s] && !seen[2 * s + 1]) cut.add(s);
          return most;
        }
        most++;
      }
    }
    private static boolean pair(int a, int b, int c, int d) { return a == c && b == d || a == d && b == c; }
    private static boolean push(int[][] room, boolean[] seen, int at, int to) {
      if (at == to) return true;
      seen[at] = true;
      for (int v = room.length - 1; v >= 0; v--) {
        if (seen[v] || room[at][v] == 0) continue;
        if (push(room, seen, v, to)) { room[at][v]--; room[v][at]++; return true; }
      }
      return false;
    }
    int most(int stride) { return most(stride, 1, -1, -1, null); }
    /** SURE: every STONE's best chance so far, again and again till nothing gets better. */
    long sure(int stride, int weight) {
      if (stride >= wide) return 1000000000L;
      int n = stones.size();
      long[] best = new long[n];
      boolean better = true;
      while (better) {
        better = false;
        for (int s = 0; s < n; s++) {
          if (left(s) < weight) continue;
          long before = link(98, s, stride) ? 1000000000L : 0;
          for (int t = 0; t < n; t++) if (t != s && link(s, t, stride)) before = Math.max(before, best[t]);
          Stone st = stones.get(s);
          if (st.doubt > 0 && st.one == null && st.borne + weight > 1) before = before * (100 - st.doubt) / 100;
          if (before > best[s]) { best[s] = before; better = true; }
        }
      }
      long sure = 0;
      for (int s = 0; s < n; s++) if (link(s, 99, stride)) sure = Math.max(sure, best[s]);
      return sure;
    }
    boolean step(long p, long to) {
      if (p < 0 || p >= people.size() || to < 0 || to > 99 || !place((int) to)) return false;
      Person who = people.get((int) p);
      if (!link(who.place, (int) to, who.stride)) return false;
      if (to < 98) {
        if (left((int) to) < who.weight) return false;
        stones.get((int) to).borne += who.weight;
      }
      who.place = (int) to;
      return true;
    }
  }

  static final class Fault extends RuntimeException {
    final int kind, place;
    Fault(int kind, int place) { this.kind = kind; this.place = place; }
  }

  World w = new World();
  final World[] images = new World[3];
  final StringBuilder tape = new StringBuilder();
  int faultKind = 0, faultPlace = -1;
  final long[][] slots = new long[4][];
  final int[] widths = new int[4];

  // ---- the text
  private String text;
  private int at;
  private String token;
  private int tokenAt;
  private static final Pattern TOKEN = Pattern.compile("[ \\n]*([a-z]+|[0-9]+|;|[\\s\\S]|$)");

  private void next() {
    Matcher m = TOKEN.matcher(text);
    if (!m.find(at)) throw new IllegalStateException();
    token = m.group(1);
    tokenAt = token.isEmpty() ? text.length() : m.start(1);
    at = m.end();
  }
  private void word(String w) {
    if (!token.equals(w)) throw new Fault(1, tokenAt);
    next();
  }
  private boolean maybe(String w) {
    if (!token.equals(w)) return false;
    next();
    return true;
  }
  private int number(int low, int high) {
    if (!token.matches("[0-9]+")) throw new Fault(1, tokenAt);
    java.math.BigInteger v = new java.math.BigInteger(token);
    if (v.compareTo(java.math.BigInteger.valueOf(low)) < 0 || v.compareTo(java.math.BigInteger.valueOf(high)) > 0)
      throw new Fault(2, tokenAt);
    next();
    return v.intValue();
  }
  private World parse(String t) {
    text = t;
    at = 0;
    next();
    World r = new World();
    int doubts = 0;
    while (!token.isEmpty()) {
      int begun = tokenAt;
      if (r.lines == 0) {
        word("river"); word("wide"); r.wide = number(2, 12); word("long"); r.len = number(1, 20);
      } else if (maybe("stone")) {
        if (r.stones.size() == 24) throw new Fault(3, begun);
        Stone s = new Stone();
        word("at"); s.x = number(0, r.len - 1);
        int yAt = tokenAt;
        s.y = number(1, r.wide - 1);
        if (r.at(s.x, s.y) >= 0) throw new Fault(2, yAt);
        word("bears"); s.bears = number(1, 9);
        if (maybe("sinks")) s.sinks = number(1, 23);
        int doubtAt = tokenAt;
        if (token.equals("doubt") && ++doubts == 5) throw new Fault(2, doubtAt);
        if (maybe("doubt")) s.doubt = number(1, 99);
        r.stones.add(s);
      } else if (maybe("person")) {
        if (r.people.size() == 8) throw new Fault(3, begun);
        Person p = new Person();
        word("stride"); p.stride = number(1, 9);
        word("weight"); p.weight = number(1, 3);
        word("worth"); p.worth = number(0, 99);
        p.must = maybe("must");
        p.back = maybe("back");
        int me = r.people.size();
        if (maybe("hand")) {
          int handAt = tokenAt;
          p.hand = number(0, me - 1);
          if (r.people.get(p.hand).hand >= 0) throw new Fault(2, handAt);
          r.people.get(p.hand).hand = me;
        }
        r.people.add(p);
      } else if (maybe("plank")) {
        if (r.plank > 0) throw new Fault(2, begun);
        r.plank = number(1, 9);
      } else {
        throw new Fault(1, begun);
      }
      word(";");
      r.lines++;
    }
    return r;
  }

  // ---- the face
  int feed(int... five) {
    if (tape.length() + 20 > 1600) return -1;
    for (int v : five) for (int k = 3; k >= 0; k--) tape.append((char) ((v >>> (8 * k)) & 255));
    return tape.length();
  }
  int end(int n) {
    if (n < 0 || n > tape.length()) return -1;
    tape.setLength(n);
    return n;
  }
  int river() {
    String t = tape.toString();
    tape.setLength(0);
    faultKind = 0;
    faultPlace = -1;
    try {
      w = parse(t);
    } catch (Fault f) {
      faultKind = f.kind;
      faultPlace = f.place;
      return -4;
    }
    return w.lines;
  }
  int fault(int what) { return what == 0 ? faultKind : what == 1 ? faultPlace : -1; }
  private boolean noStone(int s) { return s < 0 || s >= w.stones.size(); }
  private boolean noPerson(int p) { return p < 0 || p >= w.people.size(); }
  private boolean noStride(int s) { return w.lines == 0 || s < 1 || s > 9; }
  private boolean noWeight(int v) { return v < 1 || v > 6; }
  private boolean noWay(int v) { return w.lines == 0 || v < 0 || v > 3; }
  int stone(int s, int what) {
    if (noStone(s)) return -2;
    Stone t = w.stones.get(s);
    switch (what) {
      case 0: return t.x;
      case 1: return t.y;
      case 2: return w.left(s);
      case 3: return t.borne;
      case 4: return t.doubt == 0 ? 0 : t.one == null ? -1 : t.one ? 1 : 0;
      default: return -2;
    }
  }
  int person(int p, int what) {
    if (noPerson(p)) return -2;
    Person t = w.people.get(p);
    switch (what) {
      case 0: return t.place;
      case 1: return t.hand;
      case 2: return t.hand < 0 ? p : Math.min(p, t.hand);
      default: return -2;
    }
  }
  int may(int a, int b, int stride) {
    if (noStride(stride) || !w.place(a) || !w.place(b)) return -2;
    return w.link(a, b, stride) ? 1 : 0;
  }
  private static int bits(Iterable<Integer> all) {
    int bits = 0;
    for (int s : all) bits |= 1 << s;
    return bits;
  }
  int reach(int stride) { return noStride(stride) ? -2 : bits(w.reach(stride)); }
  int hour(int h) {
    if (w.lines == 0 || h < 0 || h > 23) return -2;
    int was = w.hour;
    w.hour = h;
    return was;
  }
  int fresh() {
    int sum = 0;
    for (Stone s : w.stones) { sum += s.borne; s.borne = 0; }
    return sum;
  }
  private List<Integer> ahead(int stride, int weight, int way) {
    return w.stones.size() <= 8 ? w.everyWay(stride, weight, way, 98) : w.way(stride, weight, way, 98);
  }
  int length(int stride, int weight, int way) {
    if (noStride(stride) || noWeight(weight) || noWay(way)) return -2;
    List<Integer> row = ahead(stride, weight, way);
    return row == null ? -1 : row.size();
  }
  int path(int stride, int weight, int way, int i) {
    if (noStride(stride) || noWeight(weight) || noWay(way)) return -2;
    List<Integer> row = ahead(stride, weight, way);
    return row == null || i < 0 || i >= row.size() ? -1 : row.get(i);
  }
  int step(int p, int to) {
    if (noPerson(p) || !w.place(to)) return -2;
    if (!w.step(p, to)) return -5;
    return to >= 98 ? 0 : w.left(to);
  }
  private int judged(int slot, World thought) {
    int n = 0;
    for (int i = 0; i + 1 < slots[slot].length; i += 2, n++)
      if (!thought.step(slots[slot][i], slots[slot][i + 1])) break;
    return n;
  }
  int judge(int slot) {
    if (slot < 0 || slot > 3) return -2;
    return slots[slot] == null ? -6 : judged(slot, w.copy());
  }
  int ends(int slot, int p) {
    if (slot < 0 || slot > 3 || noPerson(p)) return -2;
    if (slots[slot] == null) return -6;
    World thought = w.copy();
    judged(slot, thought);
    return thought.people.get(p).place;
  }
  int go(int unit, int way) {
    if (noWay(way) || w.unit(unit) == null) return -2;
    return w.send(w.unit(unit), way);
  }
  int over(int way, int what) {
    if (noWay(way) || what < 0 || what > 3) return -2;
    World thought = w.copy();
    List<int[]> gone = thought.over(way);
    int people = 0, worth = 0, bits = 0;
    for (int[] u : gone) for (int p : u) { people++; worth += w.people.get(p).worth; bits |= 1 << p; }
    return what == 0 ? people : what == 1 ? worth : what == 2 ? bits : thought.missing();
  }
  int all(int way) {
    if (noWay(way)) return -2;
    return w.over(way).stream().mapToInt(u -> u.length).sum();
  }
  private int[] bestOrder;
  private int bestMust, bestWorth;
  private void permute(List<Integer> done, List<Integer> rest, World world, int way, int must, int worth) {
    if (rest.isEmpty()) {
      if (must > bestMust || must == bestMust && worth > bestWorth) {
        bestMust = must;
        bestWorth = worth;
        bestOrder = done.stream().mapToInt(i -> i).toArray();
      }
      return;
    }
    for (int i = 0; i < rest.size(); i++) {
      List<Integer> others = new ArrayList<>(rest);
      int u = others.remove(i);
      World thought = world.copy();
      int[] unit = w.unit(u);
      boolean gone = thought.send(unit, way) >= 0;
      done.add(u);
      permute(done, others, thought, way, must + (gone && w.must(unit) ? 1 : 0), worth + (gone ? w.worth(unit) : 0));
      done.remove(done.size() - 1);
    }
  }
  int order(int way, int what) {
    if (noWay(way) || what < 0 || what > 7) return -2;
    List<Integer> there = new ArrayList<>();
    for (int[] u : w.units()) if (w.bank(u) == 98) there.add(u[0]);
    if (there.size() > 6) return -3;
    bestMust = -1;
    bestWorth = -1;
    permute(new ArrayList<>(), there, w, way, 0, 0);
    if (what < 2) return what == 0 ? bestWorth : bestMust;
    return what - 2 < bestOrder.length ? bestOrder[what - 2] : -1;
  }
  int gap(int way) {
    int best = order(way, 0);
    return best < 0 ? -1000000 : best - over(way, 1);
  }
  int home(int way) {
    if (noWay(way)) return -2;
    World thought = w.copy();
    thought.over(way);
    int home = 0;
    for (int[] u : thought.units())
      if (thought.bank(u) == 99 && thought.back(u) && thought.send(u, way) >= 0) home += u.length;
    return home;
  }
  int days(int way) {
    if (noWay(way)) return -2;
    World thought = w.copy();
    int days = 0;
    while (thought.people.stream().anyMatch(p -> p.place == 98)) {
      for (Stone s : thought.stones) s.borne = 0;
      if (thought.over(way).isEmpty()) return -1;
      days++;
    }
    return days;
  }
  int best() {
    if (w.lines == 0) return -2;
    int best = 0;
    for (int way = 1; way < 4; way++) if (over(way, 1) > over(best, 1)) best = way;
    return best;
  }
  int most(int stride, int weight) {
    if (noStride(stride) || noWeight(weight)) return -2;
    return w.most(stride, weight, -1, -1, null);
  }
  int cut(int stride, int weight) {
    if (noStride(stride) || noWeight(weight)) return -2;
    Set<Integer> cut = new HashSet<>();
    w.most(stride, weight, -1, -1, cut);
    return bits(cut);
  }
  int bars(int stone, int stride, int weight) {
    if (noStone(stone) || noStride(stride) || noWeight(weight)) return -2;
    World thought = w.copy();
    thought.stones.remove(stone);
    return most(stride, weight) - thought.most(stride, weight, -1, -1, null);
  }
  int alike(int stride, int weight, int way) {
    if (noStride(stride) || noWeight(weight) || noWay(way)) return -2;
    if (stride >= w.wide) return 999;
    World thought = w.copy();
    int n = 0;
    while (true) {
      List<Integer> row = thought.way(stride, weight, way, 98);
      if (row == null) return n;
      for (int s : row) thought.stones.get(s).borne += weight;
      n++;
    }
  }
  private int withOne(int x, int y, int bears, int stride) {
    World thought = w.copy();
    Stone s = new Stone();
    s.x = x;
    s.y = y;
    s.bears = bears;
    thought.stones.add(s);
    return thought.most(stride);
  }
  int more(int x, int y, int bears, int stride) {
    if (noStride(stride) || bears < 1 || bears > 9 || x < 0 || x >= w.len || y < 1 || y >= w.wide) return -2;
    return w.at(x, y) >= 0 ? -5 : withOne(x, y, bears, stride);
  }
  int where(int bears, int stride) {
    if (noStride(stride) || bears < 1 || bears > 9) return -2;
    int best = -1, most = -1;
    for (int y = 1; y < w.wide; y++)
      for (int x = 0; x < w.len; x++) {
        int m = w.at(x, y) >= 0 ? -1 : withOne(x, y, bears, stride);
        if (m > most) { most = m; best = 100 * y + x; }
      }
    return best;
  }
  int moved(int stone, int to, int stride) {
    if (noStone(stone) || noStride(stride) || to < 0 || to > 4) return -2;
    World thought = w.copy();
    Stone s = thought.stones.get(stone);
    int x = s.x + new int[] {0, 1, -1, 0, 0}[to], y = s.y + new int[] {0, 0, 0, 1, -1}[to];
    if (x < 0 || x >= w.len || y < 1 || y >= w.wide || to > 0 && w.at(x, y) >= 0) return -5;
    s.x = x;
    s.y = y;
    return thought.most(stride);
  }
  int move(int stone, int stride) {
    if (noStone(stone) || noStride(stride)) return -2;
    int best = 0;
    for (int to = 1; to < 5; to++) if (moved(stone, to, stride) > moved(stone, best, stride)) best = to;
    return best;
  }
  int plank(int a, int b, int stride) {
    if (!w.place(a) || !w.place(b) || a == b || noStride(stride)) return -2;
    if (!w.link(a, b, w.plank)) return -5;
    return w.most(stride, 1, a, b, null);
  }
  int planks(int stride) {
    if (noStride(stride)) return -2;
    int best = -1, most = -1;
    for (int number = 0; number < 10000; number++) {
      int a = number / 100, b = number % 100;
      if (a >= b || !w.place(a) || !w.place(b)) continue;
      int m = plank(a, b, stride);
      if (m > most) { most = m; best = number; }
    }
    return best;
  }
  int know(int stone, boolean one) {
    if (noStone(stone)) return -2;
    Stone s = w.stones.get(stone);
    if (s.doubt == 0 || s.one != null) return -5;
    s.one = one;
    return 0;
  }
  long sure(int stride, int weight) { return noStride(stride) || noWeight(weight) ? -2 : w.sure(stride, weight); }
  long tread(int stone, int stride, int weight) {
    if (noStone(stone) || noStride(stride) || noWeight(weight)) return -2;
    Stone s = w.stones.get(stone);
    if (s.doubt == 0 || s.one != null) return 0;
    s.one = true;
    long one = w.sure(stride, weight);
    s.one = false;
    long told = w.sure(stride, weight);
    s.one = null;
    return (s.doubt * one + (100 - s.doubt) * told) / 100 - w.sure(stride, weight);
  }
  int first(int stride, int weight) {
    if (noStride(stride) || noWeight(weight)) return -2;
    int first = -1;
    for (int s = 0; s < w.stones.size(); s++)
      if (tread(s, stride, weight) > (first < 0 ? 0 : tread(first, stride, weight))) first = s;
    return first;
  }
  int price(int stride, int doctor, int way) {
    if (noStride(stride) || noStride(doctor) || noWay(way)) return -2;
    List<Integer> row = w.way(doctor, 1, way, 98);
    if (row == null) return -1;
    World thought = w.copy();
    for (int s : row) thought.stones.get(s).borne++;
    return w.most(stride) - thought.most(stride);
  }
  int keep(int stride, int doctor) {
    if (noStride(stride) || noStride(doctor)) return -2;
    if (price(stride, doctor, 0) == -1) return -1;
    int best = 0;
    for (int way = 1; way < 4; way++) if (price(stride, doctor, way) < price(stride, doctor, best)) best = way;
    return best;
  }
  int late(int stride, int hour) {
    if (noStride(stride) || hour < 0 || hour > 23) return -2;
    World thought = w.copy();
    thought.hour = hour;
    return thought.most(stride);
  }
  int noon(int stride, int n) {
    if (noStride(stride) || n < 0 || n > 999) return -2;
    int last = -1;
    for (int h = 0; h < 24; h++) if (late(stride, h) >= n) last = h;
    return last;
  }
  private int rows(int slot, int other) {
    if (slot < 0 || slot > 3 || other < 0 || other > 3) return -2;
    if (slots[slot] == null || slots[other] == null) return -6;
    for (long v : slots[slot]) if (v < 0 || v >= w.stones.size()) return -2;
    for (long v : slots[other]) if (v < 0 || v >= w.stones.size()) return -2;
    return 0;
  }
  int waits(int slot, int other) {
    if (rows(slot, other) != 0) return rows(slot, other);
    for (int d = 0; d <= 60; d++) {
      boolean met = false;
      for (int minute = 0; minute < 200; minute++) {
        int mine = minute, yours = minute - d;
        if (mine < slots[slot].length && yours >= 0 && yours < slots[other].length)
          met |= slots[slot][mine] == slots[other][yours];
      }
      if (!met) return d;
    }
    return -1;
  }
  int cross(int slot, int other) {
    if (rows(slot, other) != 0) return rows(slot, other);
    Set<Long> both = new HashSet<>();
    for (long a : slots[slot]) for (long b : slots[other]) if (a == b) both.add(a);
    return both.size();
  }
  private World drawn;
  int run(int seed, int way) {
    if (noWay(way) || seed < 0 || seed > 2000000000) return -2;
    return day(seed, way);
  }
  private int day(int seed, int way) {
    drawn = w.copy();
    Set<Integer> ones = new HashSet<>();
    long x = seed;
    for (int s = 0; s < w.stones.size(); s++) {
      Stone t = w.stones.get(s);
      if (t.doubt == 0 || t.one != null) continue;
      x = (1103515245L * x + 12345L) & 0x7fffffffL;
      if ((x >> 16) % 100 < t.doubt) ones.add(s);
    }
    int people = 0;
    for (int[] u : drawn.units()) {
      if (drawn.bank(u) != 98) continue;
      int weight = drawn.weight(u);
      List<Integer> row = drawn.way(drawn.stride(u), weight, way, 98);
      if (row == null) continue;
      boolean in = false;
      for (int s : row) {
        Stone t = drawn.stones.get(s);
        if (ones.contains(s) && t.borne + weight > 1) {
          t.borne = 1000;
          in = true;
          break;
        }
        t.borne += weight;
      }
      for (int p : u) drawn.people.get(p).place = in ? -77 : 99;
      if (!in) people += u.length;
    }
    return people;
  }
  int runs(int seed, int n, int way, int what) {
    if (run(seed, way) == -2 || n < 1 || n > 60 || what < 0 || what > 2) return -2;
    int sum = 0, few = 1000, fine = 0;
    for (int i = 0; i < n; i++) {
      drawn = null;
      int r = day(seed + i, way);
      sum += r;
      few = Math.min(few, r);
      if (drawn.missing() == 0) fine++;
    }
    return what == 0 ? sum : what == 1 ? few : fine;
  }
  int count(int what) {
    switch (what) {
      case 0: return w.wide;
      case 1: return w.len;
      case 2: return w.stones.size();
      case 3: return w.people.size();
      case 4: return w.hour;
      case 5: return w.lines;
      case 6: return tape.length();
      case 7: return (int) w.people.stream().filter(p -> p.place == 98).count();
      case 8: return (int) w.people.stream().filter(p -> p.place == 99).count();
      case 9: {
        int bits = 0;
        for (int s = 0; s < w.stones.size(); s++) if (stone(s, 4) == -1) bits |= 1 << s;
        return bits;
      }
      case 10: return w.plank;
      case 11: return (int) Arrays.stream(slots).filter(r -> r != null).count();
      default: return -1;
    }
  }
  int image(int k) {
    if (k < 0 || k > 2) return -2;
    images[k] = w.copy();
    return 0;
  }
  int back(int k) {
    if (k < 0 || k > 2) return -2;
    if (images[k] == null) return -6;
    w = images[k].copy();
    return 0;
  }
  int row(int slot, int width, int n) {
    if (slot < 0 || slot > 3 || width < 0 || width > 3 || n > 60) return -2;
    if (n < 0) return -3;
    slots[slot] = new long[n];
    widths[slot] = width;
    return 0;
  }
  int write(int slot, int i, long v) {
    if (slot < 0 || slot > 3) return -2;
    if (slots[slot] == null) return -6;
    if (i < 0 || i >= slots[slot].length) return -7;
    slots[slot][i] = widths[slot] == 0 ? (byte) v : widths[slot] == 1 ? (short) v : widths[slot] == 2 ? (int) v : v;
    return 0;
  }
  int paste(int slot, int i, int to, int k, int n) {
    if (slot < 0 || slot > 3 || to < 0 || to > 3) return -2;
    if (slots[slot] == null || slots[to] == null) return -6;
    if (widths[slot] != widths[to]) return -8;
    if (i < 0 || k < 0 || n < 0 || i > slots[slot].length - n || k > slots[to].length - n) return -7;
    long[] piece = Arrays.copyOfRange(slots[slot], i, i + n);
    for (int j = 0; j < n; j++) slots[to][k + j] = piece[j];
    return 0;
  }
}
