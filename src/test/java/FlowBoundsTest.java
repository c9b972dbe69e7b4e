/** The boundary cases of term IV and of promises 25 to 34: MOST, CUT, one STONE more, one moved, a plank. */
public final class FlowBoundsTest {
  private static final Bounds B = new Bounds();
  private static final int[] NO_STONES = {-1, 5, 98, 99, Integer.MIN_VALUE, Integer.MAX_VALUE};
  private static final int[] NO_PLACES = {-1, 5, 24, 97, 100, Integer.MIN_VALUE, Integer.MAX_VALUE};
  private static final int[] NO_STRIDES = {0, 10, Integer.MIN_VALUE, Integer.MAX_VALUE};
  private static final int[] NO_WEIGHTS = {0, 7, Integer.MIN_VALUE, Integer.MAX_VALUE};
  private static final int[] NO_WAYS = {-1, 4, Integer.MIN_VALUE, Integer.MAX_VALUE};

  private static BearsTwo lone(int bears) { return Told.of("river wide 2 long 1;stone at 0 1 bears " + bears + ";"); }

  private static void most() {
    B.says("most: -2: there are none such (stride 1 .. 9, weight 1 .. 6), no RIVER");
    for (int n : NO_STRIDES) {
      B.refused("most(" + n + ", 1)", x -> x.most(n, 1), -2);
      B.refused("cut(" + n + ", 1)", x -> x.cut(n, 1), -2);
      B.refused("bars(0, " + n + ", 1)", x -> x.bars(0, n, 1), -2);
      B.refused("alike(" + n + ", 1, 0)", x -> x.alike(n, 1, 0), -2);
    }
    for (int n : NO_WEIGHTS) {
      B.refused("most(1, " + n + ")", x -> x.most(1, n), -2);
      B.refused("most(9, " + n + ")", x -> x.most(9, n), -2);
      B.refused("cut(1, " + n + ")", x -> x.cut(1, n), -2);
      B.refused("cut(9, " + n + ")", x -> x.cut(9, n), -2);
      B.refused("bars(0, 1, " + n + ")", x -> x.bars(0, 1, n), -2);
      B.refused("bars(0, 9, " + n + ")", x -> x.bars(0, 9, n), -2);
      B.refused("alike(1, " + n + ", 0)", x -> x.alike(1, n, 0), -2);
      B.refused("alike(9, " + n + ", 0)", x -> x.alike(9, n, 0), -2);
    }
    for (int n : NO_STONES) {
      B.refused("bars(" + n + ", 1, 1)", x -> x.bars(n, 1, 1), -2);
      B.refused("bars(" + n + ", 9, 1)", x -> x.bars(n, 9, 1), -2);
    }
    for (int n : NO_WAYS) {
      B.refused("alike(1, 1, " + n + ")", x -> x.alike(1, 1, n), -2);
      B.refused("alike(9, 1, " + n + ")", x -> x.alike(9, 1, n), -2);
    }
    B.staysNew("most(1, 1)", x -> x.most(1, 1), -2);
    B.staysNew("cut(1, 1)", x -> x.cut(1, 1), -2);
    B.staysNew("bars(0, 1, 1)", x -> x.bars(0, 1, 1), -2);
    B.staysNew("alike(1, 1, 0)", x -> x.alike(1, 1, 0), -2);
    BearsTwo x = Bounds.Rich.make();
    B.range("most(n, 1)", 1, 9, -2, n -> x.most(n, 1));
    B.range("most(1, n)", 1, 6, -2, n -> x.most(1, n));
    B.range("cut(n, 1)", 1, 9, -2, n -> x.cut(n, 1));
    B.range("cut(1, n)", 1, 6, -2, n -> x.cut(1, n));
    B.range("bars(n, 1, 1)", 0, 4, -2, n -> x.bars(n, 1, 1));
    B.range("bars(0, n, 1)", 1, 9, -2, n -> x.bars(0, n, 1));
    B.range("bars(0, 1, n)", 1, 6, -2, n -> x.bars(0, 1, n));
    B.range("alike(n, 1, 0)", 1, 9, -2, n -> x.alike(n, 1, 0));
    B.range("alike(1, n, 0)", 1, 6, -2, n -> x.alike(1, n, 0));
    B.range("alike(1, 1, n)", 0, 3, -2, n -> x.alike(1, 1, n));
    B.says("MOST: how many WAYS there can be at once, all together bearing on each STONE no more than LEFT");
    long[][] told = {{1, 1, 1}, {2, 1, 12}, {2, 2, 5}, {2, 3, 2}, {2, 6, 1}, {3, 1, 14}, {1, 2, 0}, {4, 1, 999}, {9, 6, 999}};
    for (long[] t : told) B.stays("most(" + t[0] + ", " + t[1] + ")", y -> y.most((int) t[0], (int) t[1]), t[2]);
    for (int bears = 1; bears < 10; bears++)
      for (int weight = 1; weight < 7; weight++) {
        B.due("most(1, " + weight + ") by " + bears, lone(bears).most(1, weight), bears / weight);
        B.due("bars(0, 1, " + weight + ") by " + bears, lone(bears).bars(0, 1, weight), bears / weight);
        for (int way = 0; way < 4; way++) B.due("alike(1, " + weight + ", " + way + ") by " + bears, lone(bears).alike(1, weight, way), bears / weight);
      }
    StringBuilder full = new StringBuilder("river wide 3 long 12;");
    for (int k = 0; k < 24; k++) full.append("stone at ").append(k % 12).append(' ').append(1 + k / 12).append(" bears 9;");
    B.due("most(2, 1) of 24 that bear nine", Told.of(full.toString()).most(2, 1), 216);
    B.due("cut(2, 1) of 24 that bear nine", Told.of(full.toString()).cut(2, 1), (1 << 24) - 1);
    B.due("alike(2, 1, 2) of 24 that bear nine", Told.of(full.toString()).alike(2, 1, 2), 216);
    B.due("bars(23, 2, 1) of 24 that bear nine", Told.of(full.toString()).bars(23, 2, 1), 9);
    B.due("most(1, 1) without STONES", Told.of("river wide 2 long 1;").most(1, 1), 0);
    BearsTwo sunk = Told.of("river wide 2 long 1;stone at 0 1 bears 9 sinks 5;");
    sunk.hour(4);
    B.due("most(1, 1) an HOUR ahead", sunk.most(1, 1), 9);
    sunk.hour(5);
    B.due("most(1, 1) at the HOUR", sunk.most(1, 1), 0);
  }

  private static void unbound() {
    B.says("MOST: 999, if stride is wide or more; cut: (0 of 999); alike: (999 as MOST)");
    for (int wide = 2; wide <= 12; wide++)
      for (int stride = 1; stride < 10; stride++) {
        BearsTwo x = Told.of("river wide " + wide + " long 1;stone at 0 1 bears 1;plank 9;");
        boolean isOver = stride >= wide, byOne = stride >= wide - 1;
        String by = "(" + stride + ", 1) of wide " + wide;
        B.due("most" + by, x.most(stride, 1), isOver ? 999 : byOne ? 1 : 0);
        B.due("cut" + by, x.cut(stride, 1), isOver ? 0 : byOne ? 1 : 0);
        B.due("bars(0, ..)" + by, x.bars(0, stride, 1), isOver ? 0 : byOne ? 1 : 0);
        B.due("alike" + by, x.alike(stride, 1, 0), isOver ? 999 : byOne ? 1 : 0);
        B.due("moved(0, 0, ..)" + by, x.moved(0, 0, stride), isOver ? 999 : byOne ? 1 : 0);
        B.due("move(0, ..)" + by, x.move(0, stride), isOver || byOne ? 0 : upTo(wide, stride) ? 3 : 0);
        if (wide > 2) B.due("more(0, 2, 1, ..)" + by, x.more(0, 2, 1, stride), isOver ? 999 : oneMore(wide, stride));
        B.due("where(1, ..)" + by, x.where(1, stride) < 0 ? -1 : 0, wide == 2 ? -1 : 0);
        B.due("plank(98, 99, ..)" + by, x.plank(98, 99, stride), wide <= 9 ? 999 : -5);
        B.due("plank(98, 0, ..)" + by, x.plank(98, 0, stride), isOver ? 999 : byOne ? 1 : 0);
        B.due("late(.., 23)" + by, x.late(stride, 23), isOver ? 999 : byOne ? 1 : 0);
        B.due("price" + by, x.price(stride, wide < 10 ? wide : 9, 0), wide < 10 ? 0 : isOver || byOne ? 1 : wide == 10 ? 0 : -1);
        B.due("sure" + by, x.sure(stride, 6), isOver ? 1000000000L : 0);
      }
  }

  /** At 999 no other call that was made ahead of it counts. */
  private static void unboundLater() {
    B.says("where, planks: of 999 the first of several");
    BearsTwo x = Told.of("river wide 4 long 9;stone at 0 1 bears 1;stone at 0 3 bears 9;stone at 4 1 bears 9;stone at 4 3 bears 9;plank 2;");
    for (int stride = 1; stride < 4; stride++) {
      x.where(9, stride);
      x.planks(stride);
      x.most(stride, 1);
      B.due("where(9, 4) behind most(" + stride + ", 1)", x.where(9, 4), 101);
      B.due("planks(4) behind most(" + stride + ", 1)", x.planks(4), 1);
      x.where(9, stride);
      B.due("planks(4) behind where(9, " + stride + ")", x.planks(4), 1);
      B.due("where(9, 5) behind where(9, " + stride + ")", x.where(9, 5), 101);
      B.due("moved(0, 1, 4)", x.moved(0, 1, 4), 999);
    }
    BearsTwo first = Told.of("river wide 4 long 2;stone at 0 2 bears 9;stone at 0 3 bears 9;");
    for (int stride = 1; stride < 4; stride++) {
      first.most(stride, 1);
      B.due("where(1, 4) behind most(" + stride + ", 1)", first.where(1, 4), 100);
    }
    B.due("where(9, 1)", x.where(9, 1), 204);
    B.due("where(1, 1): the first of two", x.where(1, 1), 200);
    B.due("planks(1)", x.planks(1), 203);
  }

  /** Whether the STONE, moved from Y 1 to Y 2, is one from which one comes over. */
  private static boolean upTo(int wide, int stride) { return wide > 2 && 2 <= stride && wide - 2 <= stride; }

  /** STONES at Y 1 and Y 2, each bearing one. */
  private static int oneMore(int wide, int stride) {
    int first = wide - 1 <= stride ? 1 : 0, second = 2 <= stride && wide - 2 <= stride ? 1 : 0;
    return first + second > 0 ? first + second : wide - 2 <= stride ? 1 : 0;
  }

  private static void cut() {
    B.says("CUT: those nearest this bank: a STONE to which, MOST being gone, one more could still come, but not from it");
    long[][] told = {{1, 1, 2}, {2, 1, 27}, {4, 1, 0}, {9, 6, 0}};
    for (long[] t : told) B.stays("cut(" + t[0] + ", " + t[1] + ")", y -> y.cut((int) t[0], (int) t[1]), t[2]);
    String three = "river wide 4 long 1;stone at 0 1 bears A;stone at 0 2 bears B;stone at 0 3 bears C;";
    for (int a = 1; a < 4; a++)
      for (int b = 1; b < 4; b++)
        for (int c = 1; c < 4; c++) {
          BearsTwo x = Told.of(three.replace("A", "" + a).replace("B", "" + b).replace("C", "" + c));
          int least = Math.min(a, Math.min(b, c));
          B.due("cut(1, 1) of " + a + " " + b + " " + c, x.cut(1, 1), a == least ? 1 : b == least ? 2 : 4);
          for (int s = 0; s < 3; s++) B.due("bars(" + s + ", 1, 1) of " + a + " " + b + " " + c, x.bars(s, 1, 1), least);
        }
    B.due("cut(1, 1) without STONES", Told.of("river wide 2 long 1;").cut(1, 1), 0);
    B.due("cut(1, 1) of one to which nobody comes", Told.of("river wide 3 long 1;stone at 0 2 bears 1;").cut(1, 1), 0);
    B.due("cut(1, 1) of one from which nobody comes on", Told.of("river wide 3 long 1;stone at 0 1 bears 1;").cut(1, 1), 0);
    B.due("cut(1, 2) of one that bears none of that weight", Told.of("river wide 2 long 1;stone at 0 1 bears 1;").cut(1, 2), 1);
    B.stays("bars(1, 1, 1)", y -> y.bars(1, 1, 1), 1);
    B.stays("bars(4, 1, 1)", y -> y.bars(4, 1, 1), 0);
    B.stays("bars(3, 2, 1)", y -> y.bars(3, 2, 1), 8);
    B.stays("bars(3, 4, 1)", y -> y.bars(3, 4, 1), 0);
    for (int way = 0; way < 4; way++) {
      int w = way;
      B.stays("alike(1, 1, " + way + ")", y -> y.alike(1, 1, w), 1);
      B.stays("alike(2, 1, " + way + ")", y -> y.alike(2, 1, w), 12);
      B.stays("alike(1, 2, " + way + ")", y -> y.alike(1, 2, w), 0);
      B.stays("alike(4, 6, " + way + ")", y -> y.alike(4, 6, w), 999);
    }
  }

  private static void more() {
    B.says("more: -2: there are none such");
    int[] noX = {-1, 5, Integer.MIN_VALUE, Integer.MAX_VALUE}, noY = {0, 4, -1, Integer.MIN_VALUE, Integer.MAX_VALUE};
    int[] noBears = {0, 10, Integer.MIN_VALUE, Integer.MAX_VALUE};
    for (int stride = 1; stride < 10; stride += 8) {
      int by = stride;
      for (int n : noX) B.refused("more(" + n + ", 1, 1, " + by + ")", x -> x.more(n, 1, 1, by), -2);
      for (int n : noY) B.refused("more(1, " + n + ", 1, " + by + ")", x -> x.more(1, n, 1, by), -2);
      for (int n : noBears) {
        B.refused("more(1, 1, " + n + ", " + by + ")", x -> x.more(1, 1, n, by), -2);
        B.refused("more(0, 1, " + n + ", " + by + "), where one lies", x -> x.more(0, 1, n, by), -2);
        B.refused("where(" + n + ", " + by + ")", x -> x.where(n, by), -2);
      }
    }
    for (int n : NO_STRIDES) {
      B.refused("more(1, 1, 1, " + n + ")", x -> x.more(1, 1, 1, n), -2);
      B.refused("where(1, " + n + ")", x -> x.where(1, n), -2);
    }
    B.staysNew("more(0, 1, 1, 1)", x -> x.more(0, 1, 1, 1), -2);
    B.staysNew("more(0, 0, 1, 1)", x -> x.more(0, 0, 1, 1), -2);
    B.staysNew("where(1, 1)", x -> x.where(1, 1), -2);
    BearsTwo x = Bounds.Rich.make();
    B.range("more(n, 1, 1, 1)", 0, 4, -2, n -> x.more(n, 1, 1, 1));
    B.range("more(1, n, 1, 1)", 1, 3, -2, n -> x.more(1, n, 1, 1));
    B.range("more(1, 1, n, 1)", 1, 9, -2, n -> x.more(1, 1, n, 1));
    B.range("more(1, 1, 1, n)", 1, 9, -2, n -> x.more(1, 1, 1, n));
    B.range("where(n, 1)", 1, 9, -2, n -> x.where(n, 1));
    B.range("where(1, n)", 1, 9, -2, n -> x.where(1, n));
    B.says("more: -5: one lies there");
    int[][] taken = {{0, 1}, {0, 2}, {0, 3}, {2, 2}, {3, 2}};
    for (int[] t : taken)
      for (int stride = 1; stride < 10; stride += 4) {
        int by = stride;
        B.stays("more(" + t[0] + ", " + t[1] + ", 1, " + by + ")", y -> y.more(t[0], t[1], 1, by), -5);
      }
    B.says("more: MOST (of weight 1) with one STONE more");
    for (int bears = 1; bears < 10; bears++) {
      int n = bears;
      B.stays("more(4, 1, " + n + ", 3)", y -> y.more(4, 1, n, 3), 14 + n);
      B.stays("more(4, 3, " + n + ", 3)", y -> y.more(4, 3, n, 3), 14 + n);
      B.stays("more(1, 2, " + n + ", 1)", y -> y.more(1, 2, n, 1), 1);
      B.stays("more(1, 2, " + n + ", 4)", y -> y.more(1, 2, n, 4), 999);
    }
    StringBuilder full = new StringBuilder("river wide 3 long 20;");
    for (int k = 0; k < 24; k++) full.append("stone at ").append(k % 20).append(' ').append(1 + k / 20).append(" bears 1;");
    B.due("more of a 25th STONE", Told.of(full.toString()).more(19, 2, 9, 2), 33);
    B.due("where of a 25th STONE", Told.of(full.toString()).where(9, 2), 204);
    // All 25 in one row, wherever the one is that is not there yet; where one comes from this bank to what is behind the gap, that is ahead of it.
    int[] gaps = {0, 1, 7, 15, 16, 24};
    for (int gap : gaps) {
      StringBuilder row = new StringBuilder("river wide 12 long 20;");
      for (int k = 24; k >= 0; k--)
        if (k != gap) row.append("stone at " + snakeX(k) + " " + snakeY(k) + " bears 2;");
      BearsTwo y = Told.of(row.toString());
      B.due("most(1, 1) of a row with a gap", y.most(1, 1), 0);
      B.due("more(.., 9, 1) in the gap", y.more(snakeX(gap), snakeY(gap), 9, 1), 2);
      B.due("more(.., 1, 1) in the gap", y.more(snakeX(gap), snakeY(gap), 1, 1), 1);
      B.due("where(1, 1)", y.where(1, 1), gap > 0 && gap < 15 ? 100 + snakeX(gap + 1) : snakeX(gap) + 100 * snakeY(gap));
    }
  }

  /** The places of a row of 25: up one, along to 14, up to the far bank. */
  private static int snakeX(int k) { return k == 0 ? 0 : Math.min(k - 1, 14); }

  private static int snakeY(int k) { return k == 0 ? 1 : k < 16 ? 2 : k - 13; }

  private static void where() {
    B.says("where: the first of several by Y, then X: X and 100 Y");
    B.stays("where(9, 1)", x -> x.where(9, 1), 101);
    B.stays("where(1, 3)", x -> x.where(1, 3), 101);
    B.stays("where(1, 9)", x -> x.where(1, 9), 101);
    B.due("the first place of all", Told.of("river wide 12 long 20;").where(1, 1), 100);
    B.due("X ahead of it does not help", Told.of("river wide 4 long 20;stone at 19 1 bears 1;stone at 19 3 bears 1;").where(1, 1), 219);
    B.due("as more() at each place", Told.of(LADDER).where(1, 3), whereByTrial());
    B.says("where: NONE: there is no room");
    StringBuilder line = new StringBuilder("river wide 2 long 20;");
    for (int k = 0; k < 19; k++) line.append("stone at ").append(k).append(" 1 bears 1;");
    B.due("one place is free", Told.of(line.toString()).where(1, 1), 119);
    B.due("one place is free, 999", Told.of(line.toString()).where(1, 2), 119);
    line.append("stone at 19 1 bears 1;");
    B.due("no place is free", Told.of(line.toString()).where(1, 1), -1);
    B.due("no place is free, 999", Told.of(line.toString()).where(1, 9), -1);
    B.due("the only place", Told.of("river wide 2 long 1;").where(9, 1), 100);
    B.due("the only place is taken", lone(1).where(9, 1), -1);
    B.says("where: one STONE more lets MOST be most");
    // Of three gaps the middle one is where nine more get over.
    BearsTwo gaps = Told.of("river wide 4 long 9;stone at 0 1 bears 1;stone at 0 3 bears 1;stone at 4 1 bears 9;stone at 4 3 bears 9;stone at 8 1 bears 5;stone at 8 3 bears 5;");
    B.due("where(1, 1): one more by any", gaps.where(1, 1), 200);
    B.due("where(2, 1): two more by the second", gaps.where(2, 1), 204);
    B.due("where(9, 1)", gaps.where(9, 1), 204);
  }

  private static final String LADDER = "river wide 12 long 20;stone at 19 2 bears 1;stone at 18 10 bears 9;stone at 19 8 bears 9;stone at 19 5 bears 9;";

  private static int whereByTrial() {
    BearsTwo x = Told.of(LADDER);
    int best = -1, most = -1;
    for (int y = 1; y < 12; y++)
      for (int at = 0; at < 20; at++) {
        int m = x.more(at, y, 1, 3);
        if (m > most) { most = m; best = at + 100 * y; }
      }
    return best;
  }

  private static void moved() {
    B.says("moved: -2: there are none such");
    int[] noTo = {-1, 5, Integer.MIN_VALUE, Integer.MAX_VALUE};
    for (int n : NO_STONES) {
      B.refused("moved(" + n + ", 0, 1)", x -> x.moved(n, 0, 1), -2);
      B.refused("moved(" + n + ", 0, 9)", x -> x.moved(n, 0, 9), -2);
      B.refused("move(" + n + ", 1)", x -> x.move(n, 1), -2);
      B.refused("move(" + n + ", 9)", x -> x.move(n, 9), -2);
    }
    for (int n : noTo) {
      B.refused("moved(0, " + n + ", 1)", x -> x.moved(0, n, 1), -2);
      B.refused("moved(0, " + n + ", 9)", x -> x.moved(0, n, 9), -2);
    }
    for (int n : NO_STRIDES) {
      B.refused("moved(0, 0, " + n + ")", x -> x.moved(0, 0, n), -2);
      B.refused("moved(0, 2, " + n + "), where it can't lie", x -> x.moved(0, 2, n), -2);
      B.refused("move(0, " + n + ")", x -> x.move(0, n), -2);
    }
    B.staysNew("moved(0, 0, 1)", x -> x.moved(0, 0, 1), -2);
    B.staysNew("move(0, 1)", x -> x.move(0, 1), -2);
    BearsTwo all = Bounds.Rich.make();
    B.range("moved(n, 0, 1)", 0, 4, -2, n -> all.moved(n, 0, 1));
    B.range("moved(0, n, 1)", 0, 4, -2, n -> all.moved(0, n, 1));
    B.range("moved(0, 0, n)", 1, 9, -2, n -> all.moved(0, 0, n));
    B.range("move(n, 1)", 0, 4, -2, n -> all.move(n, 1));
    B.range("move(0, n)", 1, 9, -2, n -> all.move(0, n));
    B.says("moved: -5: it can't lie there");
    // The corners of wide 4 long 5, and two that lie side by side.
    String corners = "river wide 4 long 5;stone at 0 1 bears 1;stone at 4 1 bears 1;stone at 0 3 bears 1;stone at 4 3 bears 1;stone at 2 2 bears 1;stone at 3 2 bears 1;";
    int[][] barred = {{2, 4}, {1, 4}, {2, 3}, {1, 3}, {1}, {2}};
    for (int s = 0; s < 6; s++)
      for (int to = 0; to < 5; to++) {
        boolean isBarred = false;
        for (int b : barred[s]) isBarred |= b == to;
        B.due("moved(" + s + ", " + to + ", 9)", Told.of(corners).moved(s, to, 9), isBarred ? -5 : 999);
        B.due("moved(" + s + ", " + to + ", 1) < 0", Told.of(corners).moved(s, to, 1) == -5 ? 1 : 0, isBarred ? 1 : 0);
      }
    B.stays("moved(0, 2, 1)", x -> x.moved(0, 2, 1), -5);
    B.stays("moved(0, 4, 1)", x -> x.moved(0, 4, 1), -5);
    B.stays("moved(0, 3, 1): one lies there", x -> x.moved(0, 3, 1), -5);
    B.stays("moved(0, 1, 1)", x -> x.moved(0, 1, 1), 0);
    B.stays("moved(0, 0, 1)", x -> x.moved(0, 0, 1), 1);
    B.stays("moved(3, 1, 1): one lies there", x -> x.moved(3, 1, 1), -5);
    B.stays("moved(4, 1, 3)", x -> x.moved(4, 1, 3), 14);
    B.due("moved in a river of one place", lone(5).moved(0, 0, 1), 5);
    for (int to = 1; to < 5; to++) B.due("moved(0, " + to + ", 1) in a river of one place", lone(5).moved(0, to, 1), -5);
    B.due("move in a river of one place", lone(5).move(0, 1), 0);
    B.says("moved: what it bears goes with it");
    BearsTwo worn = Told.of("river wide 3 long 2;stone at 0 1 bears 5;stone at 1 2 bears 5;person stride 1 weight 2 worth 1;");
    worn.step(0, 0);
    B.due("moved(0, 1, 1)", worn.moved(0, 1, 1), 3);
    B.due("moved(1, 2, 1)", worn.moved(1, 2, 1), 3);
    BearsTwo sunk = Told.of("river wide 3 long 2;stone at 0 1 bears 5 sinks 3;stone at 1 2 bears 5;");
    B.due("moved(0, 1, 1) at 0", sunk.moved(0, 1, 1), 5);
    sunk.hour(3);
    B.due("moved(0, 1, 1) of one that is under", sunk.moved(0, 1, 1), 0);
    B.says("move: Where to it should be moved, the first of several");
    B.stays("move(0, 1)", x -> x.move(0, 1), 0);
    B.due("move: X more", Told.of("river wide 3 long 3;stone at 0 1 bears 5;stone at 1 2 bears 5;").move(0, 1), 1);
    B.due("move: X less", Told.of("river wide 3 long 3;stone at 2 1 bears 5;stone at 1 2 bears 5;").move(0, 1), 2);
    B.due("move: X more and X less", Told.of("river wide 3 long 3;stone at 0 2 bears 5;stone at 1 1 bears 5;stone at 2 2 bears 5;").move(1, 1), 1);
    B.due("move: Y more", Told.of("river wide 4 long 1;stone at 0 1 bears 4;").move(0, 2), 3);
    B.due("move: Y less", Told.of("river wide 4 long 1;stone at 0 3 bears 4;").move(0, 2), 4);
    B.due("move: Y more and Y less", Told.of("river wide 9 long 1;stone at 0 4 bears 4;").move(0, 6), 0);
  }

  private static void plank() {
    B.says("plank: -2: there are none such, one twice");
    for (int n : NO_PLACES) {
      B.refused("plank(" + n + ", 0, 1)", x -> x.plank(n, 0, 1), -2);
      B.refused("plank(0, " + n + ", 9)", x -> x.plank(0, n, 9), -2);
    }
    for (int n : NO_STRIDES) {
      B.refused("plank(0, 1, " + n + ")", x -> x.plank(0, 1, n), -2);
      B.refused("plank(98, 99, " + n + ")", x -> x.plank(98, 99, n), -2);
      B.refused("planks(" + n + ")", x -> x.planks(n), -2);
    }
    int[] places = {0, 1, 2, 3, 4, 98, 99};
    for (int n : places) B.refused("plank(" + n + ", " + n + ", 1)", x -> x.plank(n, n, 1), -2);
    B.staysNew("plank(98, 99, 9)", x -> x.plank(98, 99, 9), -2);
    B.staysNew("planks(1)", x -> x.planks(1), -2);
    B.staysNew("planks(9)", x -> x.planks(9), -2);
    BearsTwo x = Bounds.Rich.make();
    B.range("plank(n, 98, 1)", 0, 4, -2, n -> x.plank(n, 98, 1));
    B.range("plank(98, n, 1)", 0, 4, -2, n -> x.plank(98, n, 1));
    B.range("plank(0, 1, n)", 1, 9, -2, n -> x.plank(0, 1, n));
    B.range("planks(n)", 1, 9, -2, n -> x.planks(n));
    B.says("plank: -5: it is too short (their distance along, a bank's 0, and across: squares together above its own)");
    B.stays("plank(98, 99, 1)", y -> y.plank(98, 99, 1), -5);
    B.stays("plank(98, 2, 1)", y -> y.plank(98, 2, 1), -5);
    B.stays("plank(0, 99, 9)", y -> y.plank(0, 99, 9), -5);
    B.stays("plank(0, 3, 9)", y -> y.plank(0, 3, 9), -5);
    B.stays("plank(0, 2, 1)", y -> y.plank(0, 2, 1), 2);
    B.stays("plank(2, 0, 1)", y -> y.plank(2, 0, 1), 2);
    B.stays("plank(98, 1, 1)", y -> y.plank(98, 1, 1), 1);
    B.stays("plank(1, 99, 1)", y -> y.plank(1, 99, 1), 1);
    B.stays("plank(0, 1, 4)", y -> y.plank(0, 1, 4), 999);
    String far = "river wide 12 long 20;stone at 0 1 bears 1;stone at 3 5 bears 1;stone at 0 6 bears 1;stone at 5 1 bears 1;stone at 1 6 bears 1;stone at 5 2 bears 1;plank ";
    int[] squares = {25, 25, 25, 26, 26};
    for (int n = 4; n < 7; n++)
      for (int s = 1; s < 6; s++) {
        BearsTwo y = Told.of(far + n + ";");
        B.due("plank(0, " + s + ", 1) of " + n, y.plank(0, s, 1), squares[s - 1] <= n * n ? 0 : -5);
        B.due("plank(" + s + ", 0, 1) of " + n, y.plank(s, 0, 1), squares[s - 1] <= n * n ? 0 : -5);
      }
    for (int n = 1; n < 10; n++) {
      BearsTwo y = Told.of("river wide 10 long 20;stone at 19 5 bears 1;plank " + n + ";");
      B.due("plank(98, 0, 1) of " + n, y.plank(98, 0, 1), n >= 5 ? 0 : -5);
      B.due("plank(0, 99, 1) of " + n, y.plank(0, 99, 1), n >= 5 ? 0 : -5);
      B.due("plank(98, 99, 1) of " + n, y.plank(98, 99, 1), -5);
      BearsTwo z = Told.of("river wide " + Math.max(2, n) + " long 1;plank " + n + ";");
      B.due("plank(98, 99, 1) of " + n, z.plank(98, 99, 1), n < 2 ? -5 : 999);
      B.due("planks(1) of " + n, z.planks(1), n < 2 ? -1 : 9899);
      BearsTwo less = Told.of("river wide " + (n + 1) + " long 1;plank " + n + ";");
      B.due("plank(99, 98, 1) of " + n, less.plank(99, 98, 1), -5);
      B.due("planks(1) of " + n, less.planks(1), -1);
    }
    B.says("plank 1 .. 9, once (0 without)");
    String without = "river wide 3 long 2;stone at 0 1 bears 1;stone at 0 2 bears 1;stone at 1 1 bears 1;";
    B.due("plank(0, 1, 1) without", Told.of(without).plank(0, 1, 1), -5);
    B.due("plank(0, 1, 9) without", Told.of(without).plank(0, 1, 9), -5);
    B.due("planks(1) without", Told.of(without).planks(1), -1);
    B.due("planks(9) without", Told.of(without).planks(9), -1);
    B.due("planks(1) with", Told.of(without + "plank 1;").planks(1), 1);
  }

  private static void planks() {
    B.says("planks: 100 times the lesser one and the other one, the least such number");
    B.stays("planks(1)", x -> x.planks(1), 2);
    B.stays("planks(2)", x -> x.planks(2), 1);
    B.stays("planks(4)", x -> x.planks(4), 1);
    B.due("to the far bank", Told.of("river wide 5 long 1;stone at 0 2 bears 4;plank 3;").planks(2), 99);
    B.due("from this bank", Told.of("river wide 5 long 1;stone at 0 3 bears 4;plank 3;").planks(2), 98);
    B.due("of two that help the least", Told.of("river wide 5 long 9;stone at 0 3 bears 4;stone at 8 3 bears 4;plank 3;").planks(2), 98);
    B.due("the second bears more", Told.of("river wide 5 long 9;stone at 0 3 bears 4;stone at 8 3 bears 5;plank 3;").planks(2), 198);
    B.due("from bank to bank is most", Told.of("river wide 5 long 9;stone at 0 3 bears 4;plank 5;").planks(2), 9899);
    B.says("planks: NONE: it reaches nowhere");
    B.due("planks(2)", Told.of("river wide 9 long 1;stone at 0 4 bears 4;plank 3;").planks(2), -1);
    B.due("planks(9): 999, but it reaches nowhere", Told.of("river wide 9 long 1;stone at 0 4 bears 4;plank 3;").planks(9), -1);
    B.due("planks(2): it reaches this bank", Told.of("river wide 9 long 1;stone at 0 4 bears 4;plank 4;").planks(2), 98);
    B.due("planks(9): it reaches this bank", Told.of("river wide 9 long 1;stone at 0 4 bears 4;plank 4;").planks(9), 98);
  }

  public static void main(String[] args) {
    most();
    unbound();
    unboundLater();
    cut();
    more();
    where();
    moved();
    plank();
    planks();
    B.finish();
  }
}
