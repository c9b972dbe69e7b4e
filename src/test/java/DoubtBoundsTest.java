/** The boundary cases of terms V and VI and of promises 35 to 38, 45 and 46: STONES in doubt, DRAWS. */
public final class DoubtBoundsTest {
  private static final Bounds B = new Bounds();
  private static final int[] NO_STONES = {-1, 5, 98, 99, Integer.MIN_VALUE, Integer.MAX_VALUE};
  private static final int[] NO_STRIDES = {0, 10, Integer.MIN_VALUE, Integer.MAX_VALUE};
  private static final int[] NO_WEIGHTS = {0, 7, Integer.MIN_VALUE, Integer.MAX_VALUE};
  private static final int[] NO_WAYS = {-1, 4, Integer.MIN_VALUE, Integer.MAX_VALUE};
  private static final int[] NO_SEEDS = {-1, 2000000001, Integer.MIN_VALUE, Integer.MAX_VALUE};
  private static final String ONE = "person stride 1 weight 1 worth 1;";

  private static void know() {
    B.says("know: -2: there is none such");
    for (int s : NO_STONES) {
      B.refused("know(" + s + ", true)", x -> x.know(s, true), -2);
      B.refused("know(" + s + ", false)", x -> x.know(s, false), -2);
    }
    B.staysNew("know(0, true)", x -> x.know(0, true), -2);
    B.says("know: -5: it is not in doubt, or known");
    int[] sure = {0, 2, 3, 4};
    for (int s : sure) {
      B.stays("know(" + s + ", true)", x -> x.know(s, true), -5);
      B.stays("know(" + s + ", false)", x -> x.know(s, false), -5);
    }
    BearsTwo one = Bounds.Rich.make();
    B.due("know(1, true)", one.know(1, true), 0);
    B.due("stone(1, 4)", one.stone(1, 4), 1);
    B.due("stone(1, 2): it has borne one", one.stone(1, 2), 0);
    B.due("count(9)", one.count(9), 0);
    B.due("know(1, false): known", one.know(1, false), -5);
    B.due("know(1, true): known", one.know(1, true), -5);
    B.due("stone(1, 4)", one.stone(1, 4), 1);
    BearsTwo told = Bounds.Rich.make();
    B.due("know(1, false)", told.know(1, false), 0);
    B.due("stone(1, 4)", told.stone(1, 4), 0);
    B.due("stone(1, 2)", told.stone(1, 2), 1);
    B.due("know(1, true): known", told.know(1, true), -5);
    B.due("stone(1, 4)", told.stone(1, 4), 0);
    BearsTwo last = Told.of("river wide 3 long 20;" + line(23) + "stone at 3 2 bears 9 doubt 99;");
    B.due("know(23, true) of 24", last.know(23, true), 0);
    B.due("know(24, true) of 24", last.know(24, true), -2);
    B.due("stone(23, 2)", last.stone(23, 2), 1);
  }

  private static String line(int n) {
    StringBuilder text = new StringBuilder();
    for (int k = 0; k < n; k++) text.append("stone at ").append(k % 20).append(' ').append(1 + k / 20).append(" bears 1;");
    return text.toString();
  }

  private static void sure() {
    B.says("sure: -2: there are none such (weight 1 .. 6), no RIVER");
    for (int n : NO_STRIDES) B.refused("sure(" + n + ", 1)", x -> x.sure(n, 1), -2);
    for (int n : NO_WEIGHTS) {
      B.refused("sure(1, " + n + ")", x -> x.sure(1, n), -2);
      B.refused("sure(9, " + n + ")", x -> x.sure(9, n), -2);
    }
    B.staysNew("sure(1, 1)", x -> x.sure(1, 1), -2);
    BearsTwo all = Bounds.Rich.make();
    B.range("sure(n, 1)", 1, 9, -2, n -> all.sure(n, 1));
    B.range("sure(1, n)", 1, 6, -2, n -> all.sure(1, n));
    B.says("SURE: the greatest chance that a row of STEPS (each LEFT weight or more, as told) holds");
    long[][] told = {{1, 1, 600000000}, {1, 2, 0}, {2, 1, 1000000000}, {2, 3, 1000000000}, {4, 6, 1000000000}};
    for (long[] t : told) B.stays("sure(" + t[0] + ", " + t[1] + ")", x -> x.sure((int) t[0], (int) t[1]), t[2]);
    for (int bears = 1; bears < 10; bears++)
      for (int weight = 1; weight < 7; weight++) {
        BearsTwo x = Told.of("river wide 2 long 1;stone at 0 1 bears " + bears + " doubt 1;");
        B.due("sure(1, " + weight + ") by " + bears, x.sure(1, weight), weight > bears ? 0 : weight > 1 ? 990000000 : 1000000000);
      }
    B.due("sure(1, 1) without STONES", Told.of("river wide 2 long 1;").sure(1, 1), 0);
    B.due("sure(2, 6) without STONES", Told.of("river wide 2 long 1;").sure(2, 6), 1000000000);
    B.says("SURE: at each STONE in doubt (of which it is not known) whose steps borne and weight are more than one");
    BearsTwo worn = Told.of("river wide 2 long 1;stone at 0 1 bears 3 doubt 30;" + ONE);
    B.due("sure(1, 1): none borne and 1", worn.sure(1, 1), 1000000000);
    B.due("sure(1, 2): none borne and 2", worn.sure(1, 2), 700000000);
    B.due("sure(1, 3): none borne and 3", worn.sure(1, 3), 700000000);
    B.due("sure(1, 4): LEFT is 3", worn.sure(1, 4), 0);
    worn.step(0, 0);
    B.due("sure(1, 1): one borne and 1", worn.sure(1, 1), 700000000);
    B.due("sure(1, 2): LEFT is 2", worn.sure(1, 2), 700000000);
    B.due("sure(1, 3): LEFT is 2", worn.sure(1, 3), 0);
    worn.know(0, false);
    B.due("sure(1, 2) when it is known to bear as told", worn.sure(1, 2), 1000000000);
    BearsTwo known = Told.of("river wide 2 long 1;stone at 0 1 bears 3 doubt 30;" + ONE);
    known.know(0, true);
    B.due("sure(1, 1) when it is known to bear one", known.sure(1, 1), 1000000000);
    B.due("sure(1, 2) when it is known to bear one", known.sure(1, 2), 0);
    B.says("SURE: times (100 less N), by 100, cut");
    int[][] four = {{1, 1, 1, 1}, {99, 99, 99, 99}, {1, 99, 50, 33}, {97, 89, 83, 79}};
    for (int[] n : four) {
      StringBuilder text = new StringBuilder("river wide 5 long 1;");
      long want = 1000000000;
      for (int k = 0; k < 4; k++) {
        text.append("stone at 0 " + (k + 1) + " bears 2 doubt " + n[k] + ";");
        want = want * (100 - n[k]) / 100;
      }
      B.due("sure(1, 2) of a row of four in doubt", Told.of(text.toString()).sure(1, 2), want);
      B.due("sure(1, 1) of a row of four in doubt", Told.of(text.toString()).sure(1, 1), 1000000000);
    }
    // By the one in doubt 50, or by two in doubt 29 (0.5041), 30 (0.49).
    String round = "river wide 4 long 9;stone at 8 2 bears 2 doubt 50;stone at 0 1 bears 2 doubt N;stone at 0 3 bears 2 doubt N;";
    B.due("sure(2, 2): two are better than one", Told.of(round.replace("N", "29")).sure(2, 2), 504100000);
    B.due("sure(2, 2): one is better than two", Told.of(round.replace("N", "30")).sure(2, 2), 500000000);
  }

  private static void tread() {
    B.says("tread: -2 likewise, no such STONE");
    for (int s : NO_STONES) {
      B.refused("tread(" + s + ", 1, 1)", x -> x.tread(s, 1, 1), -2);
      B.refused("tread(" + s + ", 9, 1)", x -> x.tread(s, 9, 1), -2);
    }
    for (int n : NO_STRIDES) {
      B.refused("tread(1, " + n + ", 1)", x -> x.tread(1, n, 1), -2);
      B.refused("tread(0, " + n + ", 1)", x -> x.tread(0, n, 1), -2);
      B.refused("first(" + n + ", 1)", x -> x.first(n, 1), -2);
    }
    for (int n : NO_WEIGHTS) {
      B.refused("tread(1, 1, " + n + ")", x -> x.tread(1, 1, n), -2);
      B.refused("tread(0, 9, " + n + ")", x -> x.tread(0, 9, n), -2);
      B.refused("first(1, " + n + ")", x -> x.first(1, n), -2);
      B.refused("first(9, " + n + ")", x -> x.first(9, n), -2);
    }
    B.staysNew("tread(0, 1, 1)", x -> x.tread(0, 1, 1), -2);
    B.staysNew("first(1, 1)", x -> x.first(1, 1), -2);
    BearsTwo all = Bounds.Rich.make();
    B.range("tread(n, 1, 1)", 0, 4, -2, n -> all.tread(n, 1, 1));
    B.range("tread(1, n, 1)", 1, 9, -2, n -> all.tread(1, n, 1));
    B.range("tread(1, 1, n)", 1, 6, -2, n -> all.tread(1, 1, n));
    B.range("first(n, 1)", 1, 9, -2, n -> all.first(n, 1));
    B.range("first(1, n)", 1, 6, -2, n -> all.first(1, n));
    B.says("tread: 0, if it is not in doubt, or known");
    for (int s = 0; s < 5; s++) {
      int st = s;
      B.stays("tread(" + s + ", 1, 1)", x -> x.tread(st, 1, 1), 0);
      B.stays("tread(" + s + ", 9, 6)", x -> x.tread(st, 9, 6), 0);
    }
    B.stays("first(1, 1)", x -> x.first(1, 1), -1);
    String two = "river wide 2 long 9;stone at 0 1 bears 2 doubt A;stone at 8 1 bears 2 doubt B;";
    long[][] cases = {{1, 1}, {1, 99}, {99, 1}, {99, 99}, {50, 50}, {50, 49}, {49, 50}, {10, 20}};
    B.says("TREAD: (N times SURE if it bears just one, and (100 less N) times SURE if it does not) by 100, cut, less SURE");
    for (long[] c : cases) {
      BearsTwo x = Told.of(two.replace("A", "" + c[0]).replace("B", "" + c[1]));
      long a = 10000000L * (100 - c[0]), b = 10000000L * (100 - c[1]), now = Math.max(a, b);
      long ofA = (c[0] * b + (100 - c[0]) * 1000000000L) / 100 - now, ofB = (c[1] * a + (100 - c[1]) * 1000000000L) / 100 - now;
      B.due("tread(0, 1, 2) of " + c[0] + " " + c[1], x.tread(0, 1, 2), ofA);
      B.due("tread(1, 1, 2) of " + c[0] + " " + c[1], x.tread(1, 1, 2), ofB);
      B.due("tread(0, 1, 1): weight 1 is borne in any case", x.tread(0, 1, 1), 0);
      B.due("first(1, 2) of " + c[0] + " " + c[1], x.first(1, 2), ofA >= ofB ? 0 : 1);
      B.due("first(1, 1)", x.first(1, 1), -1);
      x.know(0, true);
      B.due("tread(0, 1, 2) of one that is known", x.tread(0, 1, 2), 0);
      B.due("tread(1, 1, 2): there is no other way", x.tread(1, 1, 2), 0);
    }
    B.says("first: The STONE of which that is most, the first of several; NONE: of none it is above 0");
    B.due("first without doubts", Told.of("river wide 2 long 1;stone at 0 1 bears 2;").first(1, 2), -1);
    B.due("first without STONES", Told.of("river wide 2 long 1;").first(1, 2), -1);
    B.due("first(2, 2) by no STONE", Told.of(two.replace("A", "9").replace("B", "9")).first(2, 2), -1);
    StringBuilder behind = new StringBuilder("river wide 3 long 20;");
    for (int k = 0; k < 22; k++) behind.append("stone at ").append(k % 20).append(' ').append(1 + k / 20).append(" bears 1;");
    behind.append("stone at 2 2 bears 2 doubt 9;stone at 5 2 bears 2 doubt 9;");
    B.due("first(2, 2): 22 of 24", Told.of(behind.toString()).first(2, 2), 22);
    B.due("first(2, 2): 23 of 24", Told.of(behind.toString().replace("at 2 2 bears 2 doubt 9", "at 2 2 bears 1 doubt 9")).first(2, 2), -1);
  }

  // ---- DRAWS

  private static int draw(long seed, int which) {
    long x = seed;
    for (int k = 0; k <= which; k++) x = (1103515245L * x + 12345L) % 2147483648L;
    return (int) (x / 65536 % 100);
  }

  private static void run() {
    B.says("run: from a seed (0 .. 2,000,000,000). -2: there are none such, no RIVER");
    for (int n : NO_SEEDS) {
      B.refused("run(" + n + ", 0)", x -> x.run(n, 0), -2);
      for (int what = 0; what < 3; what++) {
        int w = what;
        B.refused("runs(" + n + ", 1, 0, " + what + ")", x -> x.runs(n, 1, 0, w), -2);
      }
    }
    for (int n : NO_WAYS) {
      B.refused("run(0, " + n + ")", x -> x.run(0, n), -2);
      B.refused("runs(0, 1, " + n + ", 0)", x -> x.runs(0, 1, n, 0), -2);
    }
    int[] noDays = {0, 61, -1, Integer.MIN_VALUE, Integer.MAX_VALUE}, noWhat = {-1, 3, Integer.MIN_VALUE, Integer.MAX_VALUE};
    for (int n : noDays) B.refused("runs(0, " + n + ", 0, 0)", x -> x.runs(0, n, 0, 0), -2);
    for (int n : noWhat) B.refused("runs(0, 1, 0, " + n + ")", x -> x.runs(0, 1, 0, n), -2);
    B.staysNew("run(0, 0)", x -> x.run(0, 0), -2);
    B.staysNew("runs(0, 1, 0, 0)", x -> x.runs(0, 1, 0, 0), -2);
    B.says("run: (all stays)");
    int[] seeds = {0, 1, 1999999999, 2000000000};
    for (int seed : seeds)
      for (int way = 0; way < 4; way++) {
        int w = way;
        B.stays("run(" + seed + ", " + way + ")", x -> x.run(seed, w), 2);
        B.stays("runs(" + seed + ", 1, " + way + ", 0)", x -> x.runs(seed, 1, w, 0), 2);
        B.stays("runs(" + seed + ", 60, " + way + ", 0)", x -> x.runs(seed, 60, w, 0), 120);
        B.stays("runs(" + seed + ", 60, " + way + ", 1)", x -> x.runs(seed, 60, w, 1), 2);
        B.stays("runs(" + seed + ", 60, " + way + ", 2)", x -> x.runs(seed, 60, w, 2), 60);
      }
    B.due("run of nobody", Told.of("river wide 2 long 1;").run(0, 0), 0);
    B.due("runs of nobody", Told.of("river wide 2 long 1;").runs(0, 60, 0, 0), 0);
    B.due("runs of nobody, the fewest", Told.of("river wide 2 long 1;").runs(0, 60, 0, 1), 0);
    B.due("runs of nobody who must", Told.of("river wide 2 long 1;").runs(0, 60, 0, 2), 60);
    BearsTwo eight = Told.of("river wide 2 long 1;stone at 0 1 bears 9;" + ONE.repeat(8));
    B.due("run of eight", eight.run(0, 0), 8);
    B.due("runs of eight, the fewest", eight.runs(0, 60, 0, 1), 8);
    B.due("runs of eight", eight.runs(0, 60, 0, 0), 480);
  }

  private static void draws() {
    B.says("DRAWS: x / 65536, cut, modulo 100: it bears just one, if it is below N");
    boolean[] seen = new boolean[100];
    for (int seed = 0; seed < 2000; seed++) {
      int d = draw(seed, 0);
      if (seen[d]) continue;
      seen[d] = true;
      String two = "river wide 2 long 1;stone at 0 1 bears 2 doubt N;" + ONE.repeat(2);
      if (d > 0) B.due("run(" + seed + ", 0): " + d + " is not below " + d, Told.of(two.replace("N", "" + d)).run(seed, 0), 2);
      if (d < 99) B.due("run(" + seed + ", 0): " + d + " is below " + (d + 1), Told.of(two.replace("N", "" + (d + 1))).run(seed, 0), 1);
    }
    B.says("DRAWS: (at first it is the seed), up to the last one; runs: the seed and 1, ..");
    String two = "river wide 2 long 1;stone at 0 1 bears 2 doubt 50;" + ONE + ONE.replace(";", " must;");
    int[] seeds = {0, 1, 2, 65535, 65536, 1999999941, 1999999999, 2000000000};
    for (int seed : seeds) {
      BearsTwo x = Told.of(two);
      B.due("run(" + seed + ", 0)", x.run(seed, 0), draw(seed, 0) < 50 ? 1 : 2);
      int sum = 0, few = 2, fine = 0;
      for (int n = 1; n <= 60; n++) {
        boolean one = draw((long) seed + n - 1, 0) < 50;
        sum += one ? 1 : 2;
        few = one ? 1 : few;
        fine += one ? 0 : 1;
        B.due("runs(" + seed + ", " + n + ", 0, 0)", x.runs(seed, n, 0, 0), sum);
        B.due("runs(" + seed + ", " + n + ", 0, 1)", x.runs(seed, n, 0, 1), few);
        B.due("runs(" + seed + ", " + n + ", 0, 2)", x.runs(seed, n, 0, 2), fine);
      }
    }
    B.says("DRAWS: STONE by STONE in doubt (of which it is not known) a draw");
    StringBuilder text = new StringBuilder("river wide 2 long 19;stone at 18 1 bears 1;");
    for (int k = 0; k < 4; k++) text.append("stone at ").append(3 * k).append(" 1 bears 2 doubt 50;stone at ").append(3 * k + 1).append(" 1 bears 1;");
    for (int seed = 0; seed < 40; seed++) {
      BearsTwo x = Told.of(text + ONE.repeat(8));
      // STONE by STONE in the order of their numbers: 1, 3, 5, 7; each is trodden twice, those of one go once over.
      int over = 0, units = 8;
      boolean[] one = {draw(seed, 0) < 50, draw(seed, 1) < 50, draw(seed, 2) < 50, draw(seed, 3) < 50};
      int[] left = {1, 2, 1, 2, 1, 2, 1, 2, 1};
      boolean[] trodden = new boolean[9];
      for (int s = 0; s < 9; s++)
        while (left[s] > 0 && units > 0) {
          units--;
          boolean in = s % 2 == 1 && one[s / 2] && trodden[s];
          trodden[s] = true;
          left[s] = in ? 0 : left[s] - 1;
          over += in ? 0 : 1;
        }
      B.due("run(" + seed + ", 0) of four in doubt", x.run(seed, 0), over);
    }
    StringBuilder full = new StringBuilder("river wide 3 long 20;");
    for (int k = 0; k < 24; k++) full.append("stone at " + k % 20 + " " + (1 + k / 20) + " bears " + (k < 23 ? "1;" : "9 doubt 50;"));
    for (int seed = 0; seed < 20; seed++)
      B.due("run(" + seed + ", 0) of 24, the last one in doubt", Told.of(full + "person stride 2 weight 2 worth 1;").run(seed, 0), draw(seed, 0) < 50 ? 0 : 1);
    BearsTwo known = Told.of("river wide 2 long 9;stone at 0 1 bears 2 doubt 50;stone at 8 1 bears 2 doubt 50;" + ONE.repeat(4));
    known.know(0, false);
    for (int seed = 0; seed < 20; seed++) B.due("run(" + seed + ", 0): the first draw is for the second STONE", known.run(seed, 0), draw(seed, 0) < 50 ? 3 : 4);
  }

  private static void goesIn() {
    B.says("has borne so much that with its weight it would be more goes in: it is not OVER");
    String sureOne = "river wide 2 long 1;stone at 0 1 bears 9 doubt 99;";
    int seed = 0;
    while (draw(seed, 0) >= 99) seed++;
    B.due("weight 1 onto none borne", Told.of(sureOne + ONE).run(seed, 0), 1);
    B.due("weight 2 onto none borne", Told.of(sureOne + "person stride 1 weight 2 worth 1;").run(seed, 0), 0);
    B.due("weight 1 onto one borne", Told.of(sureOne + ONE.repeat(2)).run(seed, 0), 1);
    BearsTwo borne = Told.of(sureOne + ONE.repeat(2));
    borne.step(1, 0);
    B.due("weight 1 onto one that was borne ahead of the day", borne.run(seed, 0), 0);
    borne.step(1, 98);
    borne.fresh();
    B.due("weight 1 onto none borne", borne.run(seed, 0), 1);
    B.says("that STONE has LEFT 0 from then on");
    B.due("the third has no WAY", Told.of(sureOne + ONE.repeat(8)).run(seed, 0), 1);
    BearsTwo other = Told.of(sureOne.replace("long 1", "long 9") + "stone at 8 1 bears 2;" + ONE.repeat(8));
    B.due("the third and the fourth go by another", other.run(seed, 0), 3);
    B.says("what is ahead of it on its row has borne it");
    // 0 by 0 1, 1 by 0 and goes in at 1; 0 has borne two of A then: for stride 2 it is left if A is 3.
    String row = "river wide 4 long 1;stone at 0 1 bears A;stone at 0 2 bears 9 doubt 99;stone at 0 3 bears 9;"
        + ONE.repeat(2) + "person stride 2 weight 1 worth 1;";
    B.due("the first bears three", Told.of(row.replace("A", "3")).run(seed, 0), 2);
    B.due("the first bears two", Told.of(row.replace("A", "2")).run(seed, 0), 1);
    B.says("by WAYS as if nothing were known");
    String firm = "river wide 2 long 9;stone at 0 1 bears 9 doubt 99;stone at 8 1 bears B;" + ONE.repeat(2);
    B.due("the second goes by the other, which has more left", Told.of(firm.replace("B", "9")).run(seed, 3), 2);
    B.due("the second goes in: both have eight left as told", Told.of(firm.replace("B", "8")).run(seed, 3), 1);
    BearsTwo thrice = Told.of("river wide 2 long 9;stone at 0 1 bears 9 doubt 99;stone at 8 1 bears 7;" + ONE.repeat(3));
    B.due("the second goes in, the third by the other", thrice.run(seed, 3), 2);
    B.says("runs: on how many all UNITS that must are");
    BearsTwo must = Told.of(sureOne + ONE.replace(";", " must;") + ONE);
    B.due("who must is the first", must.runs(seed, 1, 0, 2), 1);
    BearsTwo second = Told.of(sureOne + ONE + ONE.replace(";", " must;"));
    B.due("who must is the second", second.runs(seed, 1, 0, 2), 0);
  }

  public static void main(String[] args) {
    know();
    sure();
    tread();
    run();
    draws();
    goesIn();
    B.finish();
  }
}
