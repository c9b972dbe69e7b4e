/** The boundary cases of promises 39 to 44 and 47 to 52: the doctor, the HOUR, who must wait, counts, IMAGES, SLOTS. */
public final class RowBoundsTest {
  private static final Bounds B = new Bounds();
  private static final int[] NO_STRIDES = {0, 10, Integer.MIN_VALUE, Integer.MAX_VALUE};
  private static final int[] NO_WAYS = {-1, 4, Integer.MIN_VALUE, Integer.MAX_VALUE};
  private static final int[] NO_HOURS = {-1, 24, Integer.MIN_VALUE, Integer.MAX_VALUE};
  private static final int[] NO_SLOTS = {-1, 4, Integer.MIN_VALUE, Integer.MAX_VALUE};
  private static final int[] NO_IMAGES = {-1, 3, Integer.MIN_VALUE, Integer.MAX_VALUE};

  private static void price() {
    B.says("price: -2: there are none such");
    for (int n : NO_STRIDES) {
      B.refused("price(" + n + ", 1, 0)", x -> x.price(n, 1, 0), -2);
      B.refused("price(1, " + n + ", 0)", x -> x.price(1, n, 0), -2);
      B.refused("keep(" + n + ", 1)", x -> x.keep(n, 1), -2);
      B.refused("keep(1, " + n + ")", x -> x.keep(1, n), -2);
    }
    for (int n : NO_WAYS) {
      B.refused("price(1, 1, " + n + ")", x -> x.price(1, 1, n), -2);
      B.refused("price(9, 9, " + n + ")", x -> x.price(9, 9, n), -2);
    }
    B.staysNew("price(1, 1, 0)", x -> x.price(1, 1, 0), -2);
    B.staysNew("keep(1, 1)", x -> x.keep(1, 1), -2);
    BearsTwo all = Bounds.Rich.make();
    B.range("price(n, 1, 0)", 1, 9, -2, n -> all.price(n, 1, 0));
    B.range("price(1, n, 0)", 1, 9, -2, n -> all.price(1, n, 0));
    B.range("price(1, 1, n)", 0, 3, -2, n -> all.price(1, 1, n));
    B.range("keep(n, 1)", 1, 9, -2, n -> all.keep(n, 1));
    B.range("keep(1, n)", 1, 9, -2, n -> all.keep(1, n));
    B.says("price: how much less MOST (of weight 1) is by a stride, if one way by a WAY for the doctor's stride is kept");
    long[][] told = {{2, 1, 0, 2}, {1, 1, 0, 1}, {1, 2, 0, 1}, {1, 2, 1, 0}, {1, 2, 2, 1}, {1, 2, 3, 0}, {4, 1, 0, 0}, {1, 4, 0, 0}, {9, 9, 3, 0}};
    for (long[] t : told)
      B.stays("price(" + t[0] + ", " + t[1] + ", " + t[2] + ")", x -> x.price((int) t[0], (int) t[1], (int) t[2]), t[3]);
    B.says("keep: The WAY by which that is least, the first of several");
    B.stays("keep(1, 2)", x -> x.keep(1, 2), 1);
    B.stays("keep(1, 1)", x -> x.keep(1, 1), 0);
    B.stays("keep(4, 1)", x -> x.keep(4, 1), 0);
    B.stays("keep(1, 9)", x -> x.keep(1, 9), 0);
    B.says("price, keep: NONE: there is no such way");
    BearsTwo x = Bounds.Rich.make();
    x.step(3, 1);
    for (int stride = 1; stride < 10; stride += 4)
      for (int way = 0; way < 4; way++) B.due("price(" + stride + ", 1, " + way + ")", x.price(stride, 1, way), -1);
    B.due("keep(1, 1)", x.keep(1, 1), -1);
    B.due("keep(9, 1)", x.keep(9, 1), -1);
    B.due("price(1, 2, 0): the doctor has one", x.price(1, 2, 0), 0);
    B.due("keep(1, 2)", x.keep(1, 2), 0);
    BearsTwo one = Told.of("river wide 2 long 1;stone at 0 1 bears 1;");
    B.due("price(1, 1, 0): the last one", one.price(1, 1, 0), 1);
    BearsTwo bare = Told.of("river wide 2 long 1;");
    B.due("price(1, 1, 0) without STONES", bare.price(1, 1, 0), -1);
    B.due("price(1, 2, 0): no STONES are needed", bare.price(1, 2, 0), 0);
    B.due("keep(1, 1) without STONES", bare.keep(1, 1), -1);
    B.due("keep(1, 2): no STONES are needed", bare.keep(1, 2), 0);
  }

  private static void late() {
    B.says("late: -2: there are none such, no RIVER");
    for (int n : NO_STRIDES) {
      B.refused("late(" + n + ", 0)", x -> x.late(n, 0), -2);
      B.refused("noon(" + n + ", 0)", x -> x.noon(n, 0), -2);
    }
    for (int n : NO_HOURS) {
      B.refused("late(1, " + n + ")", x -> x.late(1, n), -2);
      B.refused("late(9, " + n + ")", x -> x.late(9, n), -2);
    }
    int[] noN = {-1, 1000, Integer.MIN_VALUE, Integer.MAX_VALUE};
    for (int n : noN) {
      B.refused("noon(1, " + n + ")", x -> x.noon(1, n), -2);
      B.refused("noon(9, " + n + ")", x -> x.noon(9, n), -2);
    }
    B.staysNew("late(1, 0)", x -> x.late(1, 0), -2);
    B.staysNew("noon(1, 0)", x -> x.noon(1, 0), -2);
    BearsTwo all = Bounds.Rich.make();
    B.range("late(n, 0)", 1, 9, -2, n -> all.late(n, 0));
    B.range("late(1, n)", 0, 23, -2, n -> all.late(1, n));
    B.range("noon(n, 0)", 1, 9, -2, n -> all.noon(n, 0));
    int[] fineN = {0, 1, 500, 998, 999};
    for (int n : fineN) B.due("noon(1, " + n + ") is not refused", all.noon(1, n) == -2 ? 0 : 1, 1);
    B.says("late: MOST (of weight 1), if it were that HOUR");
    for (int h = 0; h < 24; h++) {
      int at = h;
      B.stays("late(2, " + h + ")", x -> x.late(2, at), h < 12 ? 12 : 4);
      B.stays("late(4, " + h + ")", x -> x.late(4, at), 999);
    }
    B.says("noon: The last HOUR at which that is n (0 .. 999) or more; NONE: at none");
    long[][] told = {{2, 0, 23}, {2, 1, 23}, {2, 4, 23}, {2, 5, 11}, {2, 12, 11}, {2, 13, -1}, {2, 999, -1}, {4, 0, 23}, {4, 999, 23}, {1, 1, 23}, {1, 2, -1}};
    for (long[] t : told) B.stays("noon(" + t[0] + ", " + t[1] + ")", x -> x.noon((int) t[0], (int) t[1]), t[2]);
    for (int h = 1; h < 24; h++)
      B.due("noon(1, 1) of one that sinks at " + h, Told.of("river wide 2 long 1;stone at 0 1 bears 1 sinks " + h + ";").noon(1, 1), h - 1);
    B.due("noon(1, 0) without STONES", Told.of("river wide 2 long 1;").noon(1, 0), 23);
    B.due("noon(1, 1) without STONES", Told.of("river wide 2 long 1;").noon(1, 1), -1);
  }

  private static void put(BearsTwo x, int slot, int width, long... numbers) {
    B.due("row", x.row(slot, width, numbers.length), 0);
    for (int i = 0; i < numbers.length; i++) B.due("write", x.write(slot, i, numbers[i]), 0);
  }

  private static void waits() {
    B.says("waits, cross: -2: there are no such SLOTS");
    for (int n : NO_SLOTS)
      for (int slot = 0; slot < 4; slot++) {
        int s = slot;
        B.refused("waits(" + n + ", " + s + ")", x -> x.waits(n, s), -2);
        B.refused("waits(" + s + ", " + n + ")", x -> x.waits(s, n), -2);
        B.refused("cross(" + n + ", " + s + ")", x -> x.cross(n, s), -2);
        B.refused("cross(" + s + ", " + n + ")", x -> x.cross(s, n), -2);
      }
    B.says("waits, cross: -6: one has nothing");
    for (int slot = 0; slot < 4; slot++) {
      int s = slot;
      B.refused("waits(3, " + s + ")", x -> x.waits(3, s), -6);
      B.refused("waits(" + s + ", 3)", x -> x.waits(s, 3), -6);
      B.refused("cross(3, " + s + ")", x -> x.cross(3, s), -6);
      B.refused("cross(" + s + ", 3)", x -> x.cross(s, 3), -6);
    }
    B.says("waits: the fewest by which they are never on one STONE at once; cross: How many STONES are in both rows");
    long[][] told = {{0, 0, 1, 4}, {0, 1, 0, 0}, {1, 0, 0, 0}, {1, 1, 0, 0}, {0, 2, 0, 2}, {2, 0, 0, 2}, {2, 2, 1, 3}};
    for (long[] t : told) {
      B.stays("waits(" + t[0] + ", " + t[1] + ")", x -> x.waits((int) t[0], (int) t[1]), t[2]);
      B.stays("cross(" + t[0] + ", " + t[1] + ")", x -> x.cross((int) t[0], (int) t[1]), t[3]);
    }
    B.says("waits, cross: a number is no STONE (asked last)");
    long[] none = {-1, 5, 24, 98, 99, 1L << 32, (1L << 32) + 4, -(1L << 32), Long.MIN_VALUE, Long.MAX_VALUE};
    for (long n : none) {
      BearsTwo x = Bounds.Rich.make();
      put(x, 1, 3, 4, 4, n);
      B.due("waits(0, 1) of " + n, x.waits(0, 1), -2);
      B.due("waits(1, 0) of " + n, x.waits(1, 0), -2);
      B.due("cross(0, 1) of " + n, x.cross(0, 1), -2);
      B.due("cross(1, 0) of " + n, x.cross(1, 0), -2);
      B.due("waits(1, 3): asked last", x.waits(1, 3), -6);
      B.due("waits(3, 1): asked last", x.waits(3, 1), -6);
      B.due("cross(1, 3): asked last", x.cross(1, 3), -6);
      B.due("waits(1, 4)", x.waits(1, 4), -2);
      x.write(1, 2, 4);
      B.due("waits(0, 1) of 4", x.waits(0, 1), 0);
      B.due("cross(0, 1) of 4", x.cross(0, 1), 1);
    }
    BearsTwo bare = new BearsTwo();
    bare.row(0, 0, 0);
    bare.row(1, 0, 1);
    B.due("waits(0, 0) without a RIVER: no number is no STONE", bare.waits(0, 0), 0);
    B.due("cross(0, 0) without a RIVER", bare.cross(0, 0), 0);
    B.due("waits(0, 1) without a RIVER", bare.waits(0, 1), -2);
    B.due("cross(1, 0) without a RIVER", bare.cross(1, 0), -2);
    minutes();
  }

  private static void minutes() {
    B.says("waits: the fewest (0 .. 60)");
    // The first stands on 0 for so many minutes; the second comes to it in its first minute.
    for (int n = 0; n <= 60; n += 15) {
      BearsTwo x = Bounds.Rich.make();
      put(x, 0, 0, new long[n]);
      put(x, 1, 1, 0);
      B.due("waits(0, 1) of " + n + " minutes on one STONE", x.waits(0, 1), n);
      B.due("waits(1, 0) of " + n + " minutes on one STONE", x.waits(1, 0), n == 0 ? 0 : 1);
      B.due("waits(0, 0)", x.waits(0, 0), n);
      B.due("cross(0, 1)", x.cross(0, 1), n == 0 ? 0 : 1);
    }
    B.says("waits: never on one STONE at once");
    BearsTwo x = Bounds.Rich.make();
    put(x, 0, 0, 0, 1, 2, 3, 4);
    put(x, 1, 0, 4, 3, 1);
    // by 0: 0/4 1/3 2/1; none.
    B.due("waits(0, 1)", x.waits(0, 1), 0);
    put(x, 1, 0, 0);
    B.due("waits(0, 1): in the first minute", x.waits(0, 1), 1);
    put(x, 1, 0, 4, 4, 4, 4, 4);
    // by 0 in the last minute, by 1 to 4 there too; by 5 the first is gone.
    B.due("waits(0, 1): in the last minute", x.waits(0, 1), 5);
    put(x, 1, 0, 4, 4, 4, 4);
    B.due("waits(0, 1): gone a minute earlier", x.waits(0, 1), 0);
    B.due("waits(1, 0): 4 is where the second comes last", x.waits(1, 0), 0);
    B.says("cross: How many STONES are in both rows");
    put(x, 2, 0, 1, 1, 1);
    put(x, 3, 0, 1, 1);
    B.due("cross(2, 3) of one STONE again and again", x.cross(2, 3), 1);
    put(x, 2, 0, 0, 1, 2, 3, 4);
    put(x, 3, 0, 4, 3, 2, 1, 0);
    B.due("cross(2, 3) of all", x.cross(2, 3), 5);
    StringBuilder text = new StringBuilder("river wide 3 long 20;");
    for (int k = 0; k < 24; k++) text.append("stone at ").append(k % 20).append(' ').append(1 + k / 20).append(" bears 1;");
    BearsTwo full = Told.of(text.toString());
    long[] all = new long[24];
    for (int i = 0; i < 24; i++) all[i] = 23 - i;
    put(full, 0, 0, all);
    B.due("cross(0, 0) of 24", full.cross(0, 0), 24);
    B.due("waits(0, 0) of 24", full.waits(0, 0), 1);
    full.write(0, 0, 24);
    B.due("cross(0, 0) with 24", full.cross(0, 0), -2);
  }

  private static void count() {
    B.says("count: NONE for others");
    int[] others = {-1, 12, Integer.MIN_VALUE, Integer.MAX_VALUE};
    for (int n : others) B.refused("count(" + n + ")", x -> x.count(n), -1);
    long[] told = {4, 5, 5, 4, 7, 11, 28, 2, 1, 2, 2, 3};
    for (int what = 0; what < 12; what++) {
      int w = what;
      B.stays("count(" + what + ")", x -> x.count(w), told[what]);
      B.staysNew("count(" + what + ")", x -> x.count(w), 0);
    }
    B.says("count: 9 STONES in doubt (bits)");
    StringBuilder text = new StringBuilder("river wide 3 long 20;");
    for (int k = 0; k < 24; k++) text.append("stone at " + k % 20 + " " + (1 + k / 20) + " bears 1" + (k == 0 || k > 20 ? " doubt 1;" : ";"));
    BearsTwo x = Told.of(text.toString());
    B.due("count(9)", x.count(9), 1 + (7 << 21));
    x.know(23, true);
    B.due("count(9)", x.count(9), 1 + (3 << 21));
    x.know(0, false);
    B.due("count(9)", x.count(9), 3 << 21);
    B.says("count: 7 PEOPLE at 98, 8 at 99");
    BearsTwo people = Told.of("river wide 2 long 1;stone at 0 1 bears 9;" + "person stride 1 weight 1 worth 1;".repeat(8));
    for (int p = 0; p < 8; p++) {
      B.due("count(7)", people.count(7), 8 - p);
      B.due("count(8)", people.count(8), p);
      people.step(p, 0);
      B.due("count(7), one on a STONE", people.count(7), 7 - p);
      B.due("count(8), one on a STONE", people.count(8), p);
      people.step(p, 99);
    }
    B.due("count(7)", people.count(7), 0);
    B.due("count(8)", people.count(8), 8);
    B.says("count: 11 SLOTS that have a row");
    BearsTwo rows = new BearsTwo();
    for (int slot = 0; slot < 4; slot++) {
      B.due("count(11)", rows.count(11), slot);
      rows.row(slot, 0, 0);
    }
    B.due("count(11)", rows.count(11), 4);
    rows.row(0, 1, 60);
    B.due("count(11)", rows.count(11), 4);
  }

  private static void image() {
    B.says("image: -2: no such k; back: -2: no such k; -6: it has nothing");
    for (int k : NO_IMAGES) {
      B.refused("image(" + k + ")", x -> x.image(k), -2);
      B.refused("back(" + k + ")", x -> x.back(k), -2);
    }
    B.stays("back(2)", x -> x.back(2), -6);
    for (int k = 0; k < 3; k++) {
      int n = k;
      B.staysNew("back(" + k + ")", x -> x.back(n), -6);
    }
    B.says("image: IMAGE k (0 .. 2) keeps RIVER, HOUR, what STONES have borne, what is known, where all are");
    for (int k = 0; k < 3; k++) {
      BearsTwo x = Bounds.Rich.make(), y = Bounds.Rich.make();
      B.due("image(" + k + ")", x.image(k), 0);
      x.fresh();
      x.hour(20);
      x.know(1, true);
      x.step(3, 98);
      x.go(0, 0);
      B.due("back(" + k + ")", x.back(k), 0);
      // The IMAGE is another one then, so only what is now is held against it.
      java.util.List<String> got = new java.util.ArrayList<>(), want = new java.util.ArrayList<>();
      Bounds.Rich.state(x, got);
      Bounds.Rich.state(y, want);
      B.same("back(" + k + ")", got, want);
    }
    B.says("back: These are as IMAGE k has them; SLOTS, the TAPE and the FAULT are not of it");
    BearsTwo x = Bounds.Rich.make();
    B.due("back(0)", x.back(0), 0);
    long[] told = {3, 2, 1, 1, 0, 2 + 1, 28, 1, 0, 0, 0, 3};
    for (int what = 0; what < 12; what++) B.due("count(" + what + ")", x.count(what), told[what]);
    B.due("fault(0)", x.fault(0), 2);
    B.due("fault(1)", x.fault(1), 11);
    B.due("judge(3)", x.judge(3), -6);
    B.due("judge(1)", x.judge(1), 0);
    B.due("reach(2)", x.reach(2), 1);
    B.due("most(2, 1)", x.most(2, 1), 4);
    B.due("back(1)", x.back(1), 0);
    B.due("count(5)", x.count(5), 11);
    B.due("count(4)", x.count(4), 0);
    B.due("stone(0, 3)", x.stone(0, 3), 0);
    B.due("stone(4, 4)", x.stone(4, 4), -1);
    B.due("person(3, 0)", x.person(3, 0), 98);
    B.due("back(2)", x.back(2), -6);
    B.due("image(2)", x.image(2), 0);
    B.due("back(2)", x.back(2), 0);
    B.says("image: of no RIVER");
    BearsTwo none = new BearsTwo();
    for (int k = 0; k < 3; k++) B.due("image(" + k + ")", none.image(k), 0);
    Told.feed(none, Bounds.Rich.MAIN);
    none.river();
    none.hour(9);
    B.due("back(1)", none.back(1), 0);
    for (int what = 0; what < 12; what++) B.due("count(" + what + ")", none.count(what), 0);
    B.due("best()", none.best(), -2);
  }

  private static void row() {
    B.says("row: -2: there is no such SLOT or WIDTH (0 .. 3), or n is above 60; -3, and the SLOT stays: n is below 0");
    int[] lengths = {-1, 0, 60, 61};
    for (int n : NO_SLOTS) for (int len : lengths) B.refused("row(" + n + ", 0, " + len + ")", x -> x.row(n, 0, len), -2);
    for (int slot = 0; slot < 4; slot++) {
      int s = slot;
      for (int n : NO_SLOTS) for (int len : lengths) B.refused("row(" + s + ", " + n + ", " + len + ")", x -> x.row(s, n, len), -2);
      int[] above = {61, 1000, Integer.MAX_VALUE}, below = {-1, -60, Integer.MIN_VALUE};
      for (int width = 0; width < 4; width++) {
        int w = width;
        for (int n : above) B.refused("row(" + s + ", " + w + ", " + n + ")", x -> x.row(s, w, n), -2);
        for (int n : below) B.refused("row(" + s + ", " + w + ", " + n + ")", x -> x.row(s, w, n), -3);
      }
    }
    B.says("row: A SLOT (0 .. 3) has a row of n numbers of a WIDTH, all 0 (in place of another one)");
    for (int slot = 0; slot < 4; slot++)
      for (int width = 0; width < 4; width++)
        for (int n = 0; n <= 60; n += 20) {
          BearsTwo x = Bounds.Rich.make();
          int rows = slot == 3 ? 4 : 3;
          B.due("row(" + slot + ", " + width + ", " + n + ")", x.row(slot, width, n), 0);
          B.due("count(11)", x.count(11), rows);
          B.due("write at n", x.write(slot, n, 1), -7);
          B.due("write at n - 1", x.write(slot, n - 1, 0), n == 0 ? -7 : 0);
          B.due("cross: all are 0", x.cross(slot, slot), n == 0 ? 0 : 1);
          B.due("waits: n of them", x.waits(slot, slot), n);
          B.due("judge of it", x.judge(slot), 0);
        }
    BearsTwo again = Bounds.Rich.make();
    put(again, 0, 3, 4, 4, 4);
    B.due("row(0, 3, 3) again", again.row(0, 3, 3), 0);
    B.due("waits(0, 0): all 0", again.waits(0, 0), 3);
    put(again, 3, 3, 4);
    B.due("cross(0, 3): no 4 any more", again.cross(0, 3), 0);
  }

  private static void write() {
    B.says("write: -2: there is no such SLOT; -6: it has nothing; -7: there is no such number");
    for (int n : NO_SLOTS) B.refused("write(" + n + ", 0, 1)", x -> x.write(n, 0, 1), -2);
    for (int n : NO_SLOTS) B.refused("write(" + n + ", -1, 1)", x -> x.write(n, -1, 1), -2);
    int[] places = {-1, 0, 60, Integer.MAX_VALUE};
    for (int i : places) B.refused("write(3, " + i + ", 1)", x -> x.write(3, i, 1), -6);
    int[][] beyond = {{0, -1}, {0, 4}, {0, Integer.MAX_VALUE}, {0, Integer.MIN_VALUE}, {1, 0}, {1, -1}, {2, 3}, {2, -1}, {2, 60}};
    for (int[] b : beyond) B.stays("write(" + b[0] + ", " + b[1] + ", 1)", x -> x.write(b[0], b[1], 1), -7);
    BearsTwo x = Bounds.Rich.make();
    B.range("write(0, n, 1)", 0, 3, -7, n -> x.write(0, n, 1));
    x.row(3, 3, 60);
    B.range("write(3, n, 1)", 0, 59, -7, n -> x.write(3, n, 1));
    B.says("write: Number i of the SLOT's row is v, cut to its WIDTH");
    int[] bytes = {1, 2, 4, 8};
    for (int width = 0; width < 4; width++) {
      BearsTwo y = Bounds.Rich.make();
      y.row(3, width, 2);
      y.write(3, 0, 3);
      for (int bit = 3; bit < 64; bit++) {
        long v = 2 + (1L << bit);
        B.due("write", y.write(3, 1, v), 0);
        // A bit beyond the WIDTH is cut away: STONE 2; one within it makes it no PLACE.
        B.due("ends of 2 and bit " + bit + " in WIDTH " + width, y.ends(3, 3), bit >= 8 * bytes[width] ? 2 : 3);
      }
      B.due("write", y.write(3, 1, 2 - (width == 3 ? 0 : 1L << 8 * bytes[width])), 0);
      B.due("ends of 2 from below 0", y.ends(3, 3), 2);
      y.write(3, 1, -1);
      B.due("ends of -1", y.ends(3, 3), 3);
      y.write(3, 1, 99);
      B.due("ends of 99", y.ends(3, 3), 99);
    }
  }

  private static void paste() {
    B.says("paste: -2: there is no such SLOT");
    for (int n : NO_SLOTS)
      for (int slot = 0; slot < 4; slot++) {
        int s = slot;
        B.refused("paste(" + n + ", 0, " + s + ", 0, 0)", x -> x.paste(n, 0, s, 0, 0), -2);
        B.refused("paste(" + s + ", 0, " + n + ", 0, 0)", x -> x.paste(s, 0, n, 0, 0), -2);
        B.refused("paste(" + s + ", -1, " + n + ", 99, -1)", x -> x.paste(s, -1, n, 99, -1), -2);
      }
    B.says("paste: -6: one has nothing");
    for (int slot = 0; slot < 4; slot++) {
      int s = slot;
      B.refused("paste(3, 0, " + s + ", 0, 0)", x -> x.paste(3, 0, s, 0, 0), -6);
      B.refused("paste(" + s + ", 0, 3, 0, 0)", x -> x.paste(s, 0, 3, 0, 0), -6);
      B.refused("paste(" + s + ", -1, 3, -1, -1)", x -> x.paste(s, -1, 3, -1, -1), -6);
    }
    B.says("paste: -8: they are not of one WIDTH");
    int[][] pairs = {{0, 1}, {1, 0}, {0, 2}, {2, 0}, {1, 2}, {2, 1}};
    for (int[] p : pairs) {
      B.stays("paste(" + p[0] + ", 0, " + p[1] + ", 0, 0)", x -> x.paste(p[0], 0, p[1], 0, 0), -8);
      B.stays("paste(" + p[0] + ", -1, " + p[1] + ", 99, -1)", x -> x.paste(p[0], -1, p[1], 99, -1), -8);
    }
    for (int from = 0; from < 4; from++)
      for (int to = 0; to < 4; to++) {
        BearsTwo x = new BearsTwo();
        x.row(0, from, 1);
        x.row(1, to, 1);
        B.due("paste of WIDTH " + from + " to " + to, x.paste(0, 0, 1, 0, 1), from == to ? 0 : -8);
      }
    B.says("paste: -7, and nothing happens: some are beyond their rows, or a place or n is below 0");
    int max = Integer.MAX_VALUE, min = Integer.MIN_VALUE;
    int[][] beyond = {{-1, 0, 1}, {0, -1, 1}, {0, 0, -1}, {0, 0, 5}, {1, 0, 4}, {0, 1, 4}, {4, 0, 1}, {0, 4, 1}, {5, 0, 0}, {0, 5, 0}, {-1, 0, 0},
        {0, -1, 0}, {max, 0, 1}, {0, max, 1}, {0, 0, max}, {max, max, max}, {min, 0, 1}, {0, min, 1}, {0, 0, min}, {1, 1, max}, {max, 0, 0}, {4, 4, -1},
        {-1, -1, 1}, {2, 2, 3}, {max, 0, min}};
    for (int[] b : beyond) B.stays("paste(0, " + b[0] + ", 0, " + b[1] + ", " + b[2] + ")", x -> x.paste(0, b[0], 0, b[1], b[2]), -7);
    B.stays("paste(1, 0, 1, 0, 1) of no numbers", x -> x.paste(1, 0, 1, 0, 1), -7);
    B.says("paste: none, from one on that is just behind the last");
    B.stays("paste(0, 4, 0, 4, 0)", x -> x.paste(0, 4, 0, 4, 0), 0);
    B.stays("paste(0, 0, 0, 4, 0)", x -> x.paste(0, 0, 0, 4, 0), 0);
    B.stays("paste(1, 0, 1, 0, 0)", x -> x.paste(1, 0, 1, 0, 0), 0);
    B.stays("paste(0, 0, 0, 0, 4): all to where they are", x -> x.paste(0, 0, 0, 0, 4), 0);
    B.says("paste: put to another one's (or its own), from one on, as they were");
    rowIs("paste(0, 0, 0, 1, 3)", x -> x.paste(0, 0, 0, 1, 3), 0, 0, 1, 2);
    rowIs("paste(0, 1, 0, 0, 3)", x -> x.paste(0, 1, 0, 0, 3), 1, 2, 4, 4);
    rowIs("paste(0, 3, 0, 0, 1)", x -> x.paste(0, 3, 0, 0, 1), 4, 1, 2, 4);
    rowIs("paste(0, 0, 0, 3, 1)", x -> x.paste(0, 0, 0, 3, 1), 0, 1, 2, 0);
    rowIs("paste(0, 0, 0, 2, 2)", x -> x.paste(0, 0, 0, 2, 2), 0, 1, 0, 1);
    BearsTwo two = Bounds.Rich.make();
    put(two, 3, 1, new long[60]);
    B.due("paste(0, 0, 3, 57, 4)", two.paste(0, 0, 3, 57, 4), -7);
    B.due("paste(0, 0, 3, 56, 4)", two.paste(0, 0, 3, 56, 4), 0);
    B.due("cross(0, 3)", two.cross(0, 3), 4);
    B.due("paste(3, 59, 0, 0, 1)", two.paste(3, 59, 0, 0, 1), 0);
    B.due("paste(3, 60, 0, 0, 1)", two.paste(3, 60, 0, 0, 1), -7);
    B.due("paste(3, 56, 0, 0, 4)", two.paste(3, 56, 0, 0, 4), 0);
    B.due("paste(3, 55, 0, 0, 5)", two.paste(3, 55, 0, 0, 5), -7);
    B.due("cross(0, 0)", two.cross(0, 0), 4);
  }

  /** SLOT 0 has 0 1 2 4 at first, and these behind the call. */
  private static void rowIs(String call, Bounds.Call made, long... want) {
    BearsTwo x = Bounds.Rich.make();
    B.due(call, made.on(x), 0);
    for (int i = 0; i < 4; i++) {
      x.row(3, 1, 2);
      x.write(3, 0, 3);
      x.paste(0, i, 3, 1, 1);
      B.due("number " + i + " behind " + call, x.ends(3, 3), want[i]);
    }
  }

  public static void main(String[] args) {
    price();
    late();
    waits();
    count();
    image();
    row();
    write();
    paste();
    B.finish();
  }
}
