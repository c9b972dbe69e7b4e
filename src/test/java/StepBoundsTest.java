/** The boundary cases of term II and of promises 6 to 17: STONES, PEOPLE, STEPS, WAYS. */
public final class StepBoundsTest {
  private static final Bounds B = new Bounds();
  private static final int[] NO_STONES = {-1, 5, 97, 98, 99, Integer.MIN_VALUE, Integer.MAX_VALUE};
  private static final int[] NO_PEOPLE = {-1, 4, 8, Integer.MIN_VALUE, Integer.MAX_VALUE};
  private static final int[] NO_PLACES = {-1, 5, 24, 97, 100, Integer.MIN_VALUE, Integer.MAX_VALUE};
  private static final int[] NO_STRIDES = {0, 10, -1, Integer.MIN_VALUE, Integer.MAX_VALUE};
  private static final int[] NO_WEIGHTS = {0, 7, -1, Integer.MIN_VALUE, Integer.MAX_VALUE};
  private static final int[] NO_WAYS = {-1, 4, Integer.MIN_VALUE, Integer.MAX_VALUE};
  private static final int[] NO_SLOTS = {-1, 4, Integer.MIN_VALUE, Integer.MAX_VALUE};

  private static BearsTwo crowd() {
    StringBuilder text = new StringBuilder("river wide 12 long 20;");
    for (int k = 0; k < 24; k++) text.append("stone at ").append(k % 20).append(' ').append(1 + k / 20).append(" bears 1;");
    return Told.of(text + "person stride 1 weight 1 worth 1;".repeat(8));
  }

  /** One STONE of so many, and one of such a weight who has to go by it. */
  private static BearsTwo lone(int bears, int weight) {
    return Told.of("river wide 2 long 1;stone at 0 1 bears " + bears + ";person stride 1 weight " + weight + " worth 1;");
  }

  private static void stone() {
    B.says("stone: -2: there are none such");
    for (int what = 0; what < 5; what++) {
      int w = what;
      for (int s : NO_STONES) B.refused("stone(" + s + ", " + w + ")", x -> x.stone(s, w), -2);
      B.staysNew("stone(0, " + w + ")", x -> x.stone(0, w), -2);
      BearsTwo all = crowd();
      B.range("stone(n, " + w + ")", 0, 23, -2, s -> all.stone(s, w));
    }
    int[] others = {-1, 5, Integer.MIN_VALUE, Integer.MAX_VALUE};
    for (int what : others) B.refused("stone(0, " + what + ")", x -> x.stone(0, what), -2);
    long[][] told = {{0, 1, 2, 1, 0}, {0, 2, 1, 1, -1}, {0, 3, 2, 1, 0}, {2, 2, 8, 1, 0}, {3, 2, 1, 0, 1}};
    for (int s = 0; s < 5; s++)
      for (int what = 0; what < 5; what++) {
        int st = s, w = what;
        B.stays("stone(" + s + ", " + what + ")", x -> x.stone(st, w), told[s][what]);
      }
  }

  private static void left() {
    B.says("LEFT: what it bears less the steps it has borne, 0 at least");
    BearsTwo x = Told.of("river wide 2 long 1;stone at 0 1 bears 9 doubt 9;person stride 1 weight 3 worth 1;");
    for (int left = 9; left > 0; left -= 3) {
      B.due("LEFT", x.stone(0, 2), left);
      B.due("step onto it", x.step(0, 0), left - 3);
      B.due("step off", x.step(0, 98), 0);
    }
    B.due("step onto one of LEFT 0", x.step(0, 0), -5);
    B.due("borne", x.stone(0, 3), 9);
    x.know(0, true);
    B.due("LEFT of one that bears one and has borne nine", x.stone(0, 2), 0);
    x.fresh();
    B.says("LEFT: one alone, if it is known that it does");
    B.due("LEFT", x.stone(0, 2), 1);
    BearsTwo one = Told.of("river wide 2 long 1;stone at 0 1 bears 1 doubt 9;person stride 1 weight 1 worth 1;");
    one.know(0, true);
    B.due("LEFT of one that bears one as told", one.stone(0, 2), 1);
    B.due("step", one.step(0, 0), 0);
    BearsTwo told = Told.of("river wide 2 long 1;stone at 0 1 bears 9 doubt 9;");
    told.know(0, false);
    B.due("LEFT of one known to bear as told", told.stone(0, 2), 9);
    B.says("LEFT: 0 from the HOUR on at which it sinks");
    BearsTwo last = Told.of("river wide 2 long 2;stone at 0 1 bears 9 sinks 23;stone at 1 1 bears 9 sinks 1;");
    last.hour(22);
    B.due("LEFT of 23 at 22", last.stone(0, 2), 9);
    last.hour(23);
    B.due("LEFT of 23 at 23", last.stone(0, 2), 0);
    last.hour(1);
    B.due("LEFT of 1 at 1", last.stone(1, 2), 0);
    last.hour(0);
    B.due("LEFT of 1 at 0", last.stone(1, 2), 9);
    B.says("By a weight a STONE bears a step if LEFT is weight or more; it has borne weight more then");
    for (int bears = 1; bears < 10; bears++)
      for (int weight = 1; weight < 4; weight++) {
        BearsTwo y = lone(bears, weight);
        B.due("weight " + weight + " onto " + bears, y.step(0, 0), bears >= weight ? bears - weight : -5);
        B.due("borne", y.stone(0, 3), bears >= weight ? weight : 0);
        B.due("where he is", y.person(0, 0), bears >= weight ? 0 : 98);
      }
  }

  private static void person() {
    B.says("person: -2: there are none such");
    for (int what = 0; what < 3; what++) {
      int w = what;
      for (int p : NO_PEOPLE) B.refused("person(" + p + ", " + w + ")", x -> x.person(p, w), -2);
      B.staysNew("person(0, " + w + ")", x -> x.person(0, w), -2);
      BearsTwo all = crowd();
      B.range("person(n, " + w + ")", 0, 7, -2, p -> all.person(p, w));
    }
    int[] others = {-1, 3, Integer.MIN_VALUE, Integer.MAX_VALUE};
    for (int what : others) B.refused("person(0, " + what + ")", x -> x.person(0, what), -2);
    long[][] told = {{99, -1, 0}, {98, 2, 1}, {98, 1, 1}, {3, -1, 3}};
    for (int p = 0; p < 4; p++)
      for (int what = 0; what < 3; what++) {
        int who = p, w = what;
        B.stays("person(" + p + ", " + what + ")", x -> x.person(who, w), told[p][what]);
      }
    B.says("UNITS: its number is that of its lesser PERSON");
    BearsTwo far = Told.of("river wide 2 long 1;" + "person stride 1 weight 1 worth 1;".repeat(7) + "person stride 1 weight 1 worth 1 hand 0;");
    B.due("person(7, 2)", far.person(7, 2), 0);
    B.due("person(0, 2)", far.person(0, 2), 0);
    B.due("person(0, 1)", far.person(0, 1), 7);
    B.due("person(6, 2)", far.person(6, 2), 6);
  }

  private static void may() {
    B.says("may: -2: there are none such");
    for (int a : NO_PLACES) {
      B.refused("may(" + a + ", 0, 1)", x -> x.may(a, 0, 1), -2);
      B.refused("may(0, " + a + ", 1)", x -> x.may(0, a, 1), -2);
      B.refused("may(" + a + ", " + a + ", 1)", x -> x.may(a, a, 1), -2);
    }
    for (int n : NO_STRIDES) {
      B.refused("may(0, 1, " + n + ")", x -> x.may(0, 1, n), -2);
      B.refused("may(98, 98, " + n + ")", x -> x.may(98, 98, n), -2);
    }
    B.staysNew("may(98, 99, 9)", x -> x.may(98, 99, 9), -2);
    B.staysNew("may(0, 1, 1)", x -> x.may(0, 1, 1), -2);
    B.says("may: from a PLACE to itself there is none: 0");
    int[] places = {0, 1, 2, 3, 4, 98, 99};
    for (int p : places) B.stays("may(" + p + ", " + p + ", 9)", x -> x.may(p, p, 9), 0);
    BearsTwo all = crowd();
    B.range("may(n, 98, 1)", 0, 23, -2, n -> all.may(n, 98, 1));
    B.range("may(98, 99, n)", 1, 9, -2, n -> all.may(98, 99, n));
    B.says("squares of distances along and across are together no more than the square of the stride");
    StringBuilder text = new StringBuilder("river wide 12 long 20;stone at 0 1 bears 1;");
    int[][] spots = {{3, 5}, {0, 6}, {5, 1}, {1, 6}, {5, 2}, {4, 4}, {9, 1}, {0, 10}, {9, 2}, {1, 10}, {1, 1}, {1, 2}, {0, 2}};
    for (int[] s : spots) text.append("stone at " + s[0] + " " + s[1] + " bears 1;");
    BearsTwo x = Told.of(text.toString());
    for (int k = 0; k < spots.length; k++) {
      int square = spots[k][0] * spots[k][0] + (spots[k][1] - 1) * (spots[k][1] - 1);
      for (int stride = 1; stride < 10; stride++) {
        int want = square <= stride * stride ? 1 : 0;
        B.due("may(0, " + (k + 1) + ", " + stride + ")", x.may(0, k + 1, stride), want);
        B.due("may(" + (k + 1) + ", 0, " + stride + ")", x.may(k + 1, 0, stride), want);
      }
    }
    B.says("from 98 to one of Y no more than stride, from one to 99 if wide less Y is no more, and back");
    for (int y = 1; y < 12; y++) {
      BearsTwo one = Told.of("river wide 12 long 20;stone at 19 " + y + " bears 1;");
      for (int stride = 1; stride < 10; stride++) {
        B.due("may(98, 0, " + stride + ") of Y " + y, one.may(98, 0, stride), y <= stride ? 1 : 0);
        B.due("may(0, 98, " + stride + ") of Y " + y, one.may(0, 98, stride), y <= stride ? 1 : 0);
        B.due("may(0, 99, " + stride + ") of Y " + y, one.may(0, 99, stride), 12 - y <= stride ? 1 : 0);
        B.due("may(99, 0, " + stride + ") of Y " + y, one.may(99, 0, stride), 12 - y <= stride ? 1 : 0);
      }
    }
    B.says("between 98 and 99 if wide is no more");
    for (int wide = 2; wide <= 12; wide++)
      for (int stride = 1; stride < 10; stride++) {
        B.due("may(98, 99, " + stride + ") of " + wide, Told.of("river wide " + wide + " long 1;").may(98, 99, stride), wide <= stride ? 1 : 0);
        B.due("may(99, 98, " + stride + ") of " + wide, Told.of("river wide " + wide + " long 1;").may(99, 98, stride), wide <= stride ? 1 : 0);
      }
    B.says("may: whatever STONES bear");
    BearsTwo sunk = Told.of("river wide 3 long 1;stone at 0 1 bears 1 sinks 1;stone at 0 2 bears 1;person stride 2 weight 1 worth 1;");
    sunk.hour(1);
    sunk.step(0, 1);
    B.due("may(98, 0, 1) of one that is under", sunk.may(98, 0, 1), 1);
    B.due("may(0, 1, 1) of one of LEFT 0", sunk.may(0, 1, 1), 1);
  }

  private static void reach() {
    B.says("reach: -2: there is none such, no RIVER");
    for (int n : NO_STRIDES) B.refused("reach(" + n + ")", x -> x.reach(n), -2);
    B.staysNew("reach(1)", x -> x.reach(1), -2);
    B.stays("reach(1)", x -> x.reach(1), 7);
    B.stays("reach(9)", x -> x.reach(9), 31);
    B.says("REACH: STONES with LEFT above 0 to which one comes from 98 over such");
    BearsTwo x = Told.of("river wide 4 long 2;stone at 0 1 bears 2;stone at 0 2 bears 1;stone at 0 3 bears 1;stone at 1 3 bears 1;"
        + "person stride 9 weight 1 worth 1;");
    B.due("reach(1)", x.reach(1), 15);
    x.step(0, 0);
    B.due("reach(1), 0 has 1", x.reach(1), 15);
    x.step(0, 1);
    B.due("reach(1), 1 has 0", x.reach(1), 1);
    B.due("reach(2), 1 has 0", x.reach(2), 13);
    x.step(0, 0);
    B.due("reach(1), 0 has 0", x.reach(1), 0);
    B.due("reach(3), 0 and 1 have 0", x.reach(3), 12);
    B.due("reach without STONES", Told.of("river wide 2 long 1;").reach(9), 0);
    B.due("reach(9) of 24", crowd().reach(9), (1 << 24) - 1);
  }

  private static void hour() {
    B.says("hour: It is this HOUR (0 .. 23) from now on: which it was. -2: there is none such, no RIVER");
    int[] others = {-1, 24, Integer.MIN_VALUE, Integer.MAX_VALUE};
    for (int h : others) B.refused("hour(" + h + ")", x -> x.hour(h), -2);
    B.staysNew("hour(0)", x -> x.hour(0), -2);
    B.staysNew("hour(23)", x -> x.hour(23), -2);
    B.stays("hour(7) at 7", x -> x.hour(7), 7);
    BearsTwo x = Told.of("river wide 2 long 1;");
    int was = 0;
    for (int h = 23; h >= 0; h--) {
      B.due("hour(" + h + ")", x.hour(h), was);
      B.due("count(4)", x.count(4), h);
      was = h;
    }
  }

  private static void fresh() {
    B.says("fresh: how many steps they had borne, all together");
    B.staysNew("fresh()", x -> x.fresh(), 0);
    BearsTwo x = Bounds.Rich.make();
    B.due("fresh()", x.fresh(), 4);
    for (int s = 0; s < 5; s++) B.due("stone(" + s + ", 3)", x.stone(s, 3), 0);
    B.due("stone(4, 2)", x.stone(4, 2), 1);
    B.due("person(3, 0)", x.person(3, 0), 3);
    B.due("count(4)", x.count(4), 7);
    B.due("fresh() again", x.fresh(), 0);
    BearsTwo full = Told.of("river wide 2 long 20;" + stonesInLine(20) + "person stride 1 weight 3 worth 1;");
    for (int s = 0; s < 20; s++)
      for (int k = 0; k < 3; k++) {
        full.step(0, s);
        full.step(0, 98);
      }
    B.due("fresh() of twenty that bore nine each", full.fresh(), 180);
  }

  private static String stonesInLine(int n) {
    StringBuilder text = new StringBuilder();
    for (int k = 0; k < n; k++) text.append("stone at ").append(k).append(" 1 bears 9;");
    return text.toString();
  }

  private static void ways() {
    B.says("length: -2: there are none such (stride 1 .. 9, weight 1 .. 6, WAY 0 .. 3), no RIVER");
    for (int n : NO_STRIDES) {
      B.refused("length(" + n + ", 1, 0)", x -> x.length(n, 1, 0), -2);
      B.refused("path(" + n + ", 1, 0, 0)", x -> x.path(n, 1, 0, 0), -2);
    }
    for (int n : NO_WEIGHTS) {
      B.refused("length(1, " + n + ", 0)", x -> x.length(1, n, 0), -2);
      B.refused("path(1, " + n + ", 0, 0)", x -> x.path(1, n, 0, 0), -2);
    }
    for (int n : NO_WAYS) {
      B.refused("length(1, 1, " + n + ")", x -> x.length(1, 1, n), -2);
      B.refused("path(1, 1, " + n + ", 0)", x -> x.path(1, 1, n, 0), -2);
      B.refused("path(1, 1, " + n + ", -1)", x -> x.path(1, 1, n, -1), -2);
    }
    B.staysNew("length(1, 1, 0)", x -> x.length(1, 1, 0), -2);
    B.staysNew("path(1, 1, 0, 0)", x -> x.path(1, 1, 0, 0), -2);
    B.staysNew("path(9, 6, 3, -1)", x -> x.path(9, 6, 3, -1), -2);
    BearsTwo rich = Bounds.Rich.make();
    B.range("length(n, 1, 0)", 1, 9, -2, n -> rich.length(n, 1, 0));
    B.range("length(1, n, 0)", 1, 6, -2, n -> rich.length(1, n, 0));
    B.range("length(1, 1, n)", 0, 3, -2, n -> rich.length(1, 1, n));
    BearsTwo other = Bounds.Rich.make();
    B.range("path(n, 1, 0, 0)", 1, 9, -2, n -> other.path(n, 1, 0, 0));
    B.range("path(1, n, 0, 0)", 1, 6, -2, n -> other.path(1, n, 0, 0));
    B.range("path(1, 1, n, 0)", 0, 3, -2, n -> other.path(1, 1, n, 0));
    B.says("length: NONE: there is none");
    for (int way = 0; way < 4; way++) {
      int w = way;
      B.stays("length(1, 1, " + way + ")", x -> x.length(1, 1, w), 3);
      B.stays("length(1, 2, " + way + ")", x -> x.length(1, 2, w), -1);
      B.stays("length(4, 6, " + way + ")", x -> x.length(4, 6, w), 0);
      B.stays("path(4, 6, " + way + ", 0)", x -> x.path(4, 6, w, 0), -1);
      B.stays("path(1, 2, " + way + ", 0)", x -> x.path(1, 2, w, 0), -1);
    }
    B.says("path: Its STONE i; NONE: there is none such");
    long[] row = {0, 1, 2};
    for (int i = 0; i < 3; i++) {
      int at = i;
      B.stays("path(1, 1, 0, " + i + ")", x -> x.path(1, 1, 0, at), row[i]);
    }
    int[] beyond = {-1, 3, 24, Integer.MIN_VALUE, Integer.MAX_VALUE};
    for (int i : beyond) B.stays("path(1, 1, 0, " + i + ")", x -> x.path(1, 1, 0, i), -1);
    B.says("WAYS: rows of STONES by STEPS, each of which bears the weight");
    for (int bears = 1; bears < 10; bears++)
      for (int weight = 1; weight < 7; weight++)
        for (int way = 0; way < 4; way++) B.due("length(1, " + weight + ", " + way + ") of " + bears, lone(bears, 1).length(1, weight, way), bears >= weight ? 1 : -1);
    B.says("between 98 and 99 if wide is no more: a row of no STONES");
    for (int wide = 2; wide < 10; wide++) {
      BearsTwo x = Told.of("river wide " + wide + " long 1;stone at 0 1 bears 9;");
      for (int way = 0; way < 4; way++) {
        B.due("length(" + wide + ", 6, " + way + ") of wide " + wide, x.length(wide, 6, way), 0);
        B.due("length(" + (wide - 1) + ", 6, " + way + ") of wide " + wide, x.length(wide - 1, 6, way), wide - 1 == 0 ? -2 : 1);
      }
    }
  }

  /** Twenty STONES to and fro, or three straight over; what a mind looks at is 20 by the long row and 21 by the short one. */
  private static void longRows() {
    B.says("2 worn: of the least sum of LEFT; 3 firm: of the least sum of 10 less LEFT; of several those of the fewest STONES");
    for (int way = 2; way < 4; way++)
      for (int sum = 20; sum <= 21; sum++) {
        int each = way == 2 ? 1 : 9;
        StringBuilder text = new StringBuilder("river wide 4 long 20;stone at 0 1 bears " + each + ";");
        for (int k = 0; k < 18; k++) text.append("stone at " + k + " 2 bears " + each + ";");
        text.append("stone at 17 3 bears " + each + ";");
        int last = sum - 14;
        for (int y = 1; y < 4; y++) text.append("stone at 19 " + y + " bears " + (way == 2 ? y < 3 ? 7 : last : 10 - (y < 3 ? 7 : last)) + ";");
        BearsTwo x = Told.of(text.toString());
        B.due("length(1, 1, " + way + "), " + sum + " by the short row", x.length(1, 1, way), sum == 20 ? 3 : 20);
        B.due("length(1, 1, 0)", x.length(1, 1, 0), 3);
      }
    B.says("1 spare: for how many PEOPLE it is in REACH of their stride (STONES with LEFT above 0)");
    // 2 is in reach of stride 1 over 0 and 1; when 1 is under it is not, and costs no more than 5.
    String spare = "river wide 5 long 9;stone at 8 1 bears 1;stone at 8 2 bears 1 sinks 5;stone at 8 3 bears 1;stone at 7 3 bears 1;stone at 0 1 bears 1;stone at 0 3 bears 1;"
        + "person stride 1 weight 1 worth 1;";
    BearsTwo x = Told.of(spare);
    B.due("path(3, 1, 1, 0): 1, 2, 3 and 5 lead over; 5 is in reach of nobody", x.path(3, 1, 1, 0), 5);
    BearsTwo y = Told.of(spare + "person stride 9 weight 1 worth 1;");
    y.hour(4);
    B.due("path(3, 1, 1, 0) an HOUR ahead", y.path(3, 1, 1, 0), 5);
    y.hour(5);
    B.due("path(3, 1, 1, 0) at the HOUR: 2 costs as much as 5 and is less", y.path(3, 1, 1, 0), 2);
  }

  /** Where what a mind looks at is alike, the fewest STONES; where these are, the least row. */
  private static void ties() {
    B.says("of several those of the fewest STONES, of these the least row, from where one begins");
    // LEFT 1 and 1, or 2, at the far end of the numbers.
    BearsTwo worn = Told.of("river wide 4 long 9;stone at 0 1 bears 1;stone at 0 3 bears 1;stone at 8 2 bears 2;");
    B.due("length(2, 1, 2): 2 is as much as 1 and 1", worn.length(2, 1, 2), 1);
    BearsTwo less = Told.of("river wide 4 long 9;stone at 0 1 bears 1;stone at 0 3 bears 1;stone at 8 2 bears 3;");
    B.due("length(2, 1, 2): 3 is more than 1 and 1", less.length(2, 1, 2), 2);
    // 10 less 9, twice, or 10 less 8, or 10 less 7.
    BearsTwo firm = Told.of("river wide 4 long 9;stone at 0 1 bears 9;stone at 0 3 bears 9;stone at 8 2 bears 8;");
    B.due("length(2, 1, 3): 2 is as much as 1 and 1", firm.length(2, 1, 3), 1);
    BearsTwo more = Told.of("river wide 4 long 9;stone at 0 1 bears 9;stone at 0 3 bears 9;stone at 8 2 bears 7;");
    B.due("length(2, 1, 3): 3 is more than 1 and 1", more.length(2, 1, 3), 2);
    // One in reach of one PERSON costs 2, as two in reach of nobody; of two PEOPLE 3.
    String spare = "river wide 6 long 9;stone at 0 2 bears 1;stone at 0 4 bears 1;stone at 8 3 bears 1;stone at 8 2 bears 1;stone at 8 1 bears 1;";
    B.due("length(3, 1, 1) of one PERSON", Told.of(spare + "person stride 1 weight 1 worth 1;").length(3, 1, 1), 1);
    B.due("length(3, 1, 1) of two PEOPLE", Told.of(spare + "person stride 1 weight 1 worth 1;".repeat(2)).length(3, 1, 1), 2);
    B.due("length(3, 1, 1) of eight PEOPLE", Told.of(spare + "person stride 1 weight 1 worth 1;".repeat(8)).length(3, 1, 1), 2);
    // The least row from here is 0 3, from there 1 2.
    BearsTwo rows = Told.of("river wide 3 long 9;stone at 0 1 bears 1;stone at 4 2 bears 1;stone at 4 1 bears 1;stone at 0 2 bears 1;"
        + "person stride 1 weight 1 worth 1;");
    B.due("path(1, 1, 0, 0)", rows.path(1, 1, 0, 0), 0);
    B.due("path(1, 1, 0, 1)", rows.path(1, 1, 0, 1), 3);
    rows.go(0, 0);
    rows.fresh();
    rows.go(0, 0);
    B.due("stone(1, 3): back by 1 2", rows.stone(1, 3), 1);
    B.due("stone(2, 3): back by 1 2", rows.stone(2, 3), 1);
    B.due("stone(0, 3)", rows.stone(0, 3), 0);
    // Behind the same first STONE the least second one.
    BearsTwo fork = Told.of("river wide 3 long 3;stone at 1 1 bears 9;stone at 2 2 bears 9;stone at 0 2 bears 9;stone at 1 2 bears 9;");
    B.due("path(2, 1, 0, 0): one is enough", fork.path(2, 1, 0, 0), 0);
    BearsTwo deep = Told.of("river wide 5 long 3;stone at 1 2 bears 9;stone at 2 3 bears 9;stone at 0 3 bears 9;stone at 1 3 bears 9;");
    B.due("path(2, 1, 0, 1)", deep.path(2, 1, 0, 1), 1);
  }

  private static void step() {
    B.says("step: -2: there are none such");
    for (int p : NO_PEOPLE) {
      B.refused("step(" + p + ", 0)", x -> x.step(p, 0), -2);
      B.refused("step(" + p + ", 98)", x -> x.step(p, 98), -2);
    }
    for (int to : NO_PLACES) B.refused("step(3, " + to + ")", x -> x.step(3, to), -2);
    B.staysNew("step(0, 98)", x -> x.step(0, 98), -2);
    B.says("step: -5, and nothing happens: there is no such STEP, or the STONE does not bear it");
    B.stays("step(3, 3): to where he is", x -> x.step(3, 3), -5);
    B.stays("step(0, 99): to where he is", x -> x.step(0, 99), -5);
    B.stays("step(0, 1): too far", x -> x.step(0, 1), -5);
    B.stays("step(0, 98): too far", x -> x.step(0, 98), -5);
    B.stays("step(1, 2): too far", x -> x.step(1, 2), -5);
    B.stays("step(2, 1): too heavy", x -> x.step(2, 1), -5);
    B.stays("step(2, 4): too heavy for one that bears one", x -> x.step(2, 4), -5);
    BearsTwo x = Bounds.Rich.make();
    B.due("step(2, 0): just borne", x.step(2, 0), 0);
    B.due("step(1, 1): just borne, alone", x.step(1, 1), 0);
    B.due("step(3, 4): just borne", x.step(3, 4), 0);
    B.due("step(0, 2)", x.step(0, 2), 1);
    B.due("step(0, 99)", x.step(0, 99), 0);
    B.due("step(0, 2)", x.step(0, 2), 0);
    B.due("step(0, 1): of LEFT 0", x.step(0, 1), -5);
    B.due("step(3, 98)", x.step(3, 98), 0);
    B.due("step(3, 99): wide is no more", x.step(3, 99), 0);
    B.due("step(3, 98)", x.step(3, 98), 0);
    BearsTwo sunk = Bounds.Rich.make();
    sunk.step(3, 98);
    sunk.hour(12);
    B.due("step(3, 3) at the HOUR at which it sinks", sunk.step(3, 3), -5);
    sunk.hour(11);
    B.due("step(3, 3) ahead of it", sunk.step(3, 3), 7);
    sunk.hour(12);
    B.due("step(3, 98) off one that is under", sunk.step(3, 98), 0);
    for (int stride = 1; stride < 10; stride++) {
      BearsTwo bank = Told.of("river wide " + (stride + 1) + " long 1;person stride " + stride + " weight 1 worth 1;");
      B.due("step(0, 99) of one too wide", bank.step(0, 99), -5);
      if (stride > 1) B.due("step(0, 99)", Told.of("river wide " + stride + " long 1;person stride " + stride + " weight 1 worth 1;").step(0, 99), 0);
    }
  }

  private static void put(BearsTwo x, int slot, int width, long... numbers) {
    B.due("row", x.row(slot, width, numbers.length), 0);
    for (int i = 0; i < numbers.length; i++) B.due("write", x.write(slot, i, numbers[i]), 0);
  }

  private static void judge() {
    B.says("judge: -2: there is no such SLOT; -6: it has nothing");
    for (int slot : NO_SLOTS) B.refused("judge(" + slot + ")", x -> x.judge(slot), -2);
    B.stays("judge(3)", x -> x.judge(3), -6);
    for (int slot = 0; slot < 4; slot++) {
      int s = slot;
      B.staysNew("judge(" + slot + ")", x -> x.judge(s), -6);
    }
    B.says("ends: -2, -6 likewise, no such PERSON");
    for (int slot : NO_SLOTS) B.refused("ends(" + slot + ", 0)", x -> x.ends(slot, 0), -2);
    for (int p : NO_PEOPLE) {
      B.refused("ends(0, " + p + ")", x -> x.ends(0, p), -2);
      B.refused("ends(3, " + p + ")", x -> x.ends(3, p), -2);
    }
    for (int p = 0; p < 4; p++) {
      int who = p;
      B.stays("ends(3, " + p + ")", x -> x.ends(3, who), -6);
    }
    B.staysNew("ends(0, 0)", x -> x.ends(0, 0), -2);
    B.says("judge: how many ahead of the first that can't be; ends: where a PERSON is behind these");
    B.stays("judge(1) of no numbers", x -> x.judge(1), 0);
    B.stays("ends(1, 3)", x -> x.ends(1, 3), 3);
    B.stays("judge(2) of one STEP and a number left over", x -> x.judge(2), 1);
    B.stays("ends(2, 3)", x -> x.ends(2, 3), 0);
    B.stays("ends(2, 0)", x -> x.ends(2, 0), 99);
    B.stays("judge(0): 0 can't step to 1", x -> x.judge(0), 0);
    B.stays("ends(0, 0)", x -> x.ends(0, 0), 99);
    B.says("judge: one left over not looked at");
    BearsTwo odd = Bounds.Rich.make();
    put(odd, 3, 0, 3, 0, 3);
    B.due("judge of three numbers", odd.judge(3), 1);
    put(odd, 3, 0, 3, 0, 3, 98);
    B.due("judge of four", odd.judge(3), 2);
    put(odd, 3, 0, 3);
    B.due("judge of one number", odd.judge(3), 0);
    put(odd, 3, 0, 3, 0, 77);
    B.due("judge, what is left over is nobody", odd.judge(3), 1);
    long[] most = new long[60];
    for (int i = 0; i < 60; i++) most[i] = i % 2 == 0 ? 3 : i % 4 == 1 ? 98 : 99;
    put(odd, 3, 0, most);
    B.due("judge of sixty numbers", odd.judge(3), 30);
    B.due("ends of sixty numbers", odd.ends(3, 3), 99);
    BearsTwo last = Bounds.Rich.make();
    most[58] = 4;
    put(last, 3, 0, most);
    B.due("judge where the last can't be", last.judge(3), 29);
    B.due("ends where the last can't be", last.ends(3, 3), 98);
    most[0] = 4;
    put(last, 3, 0, most);
    B.due("judge where the first can't be", last.judge(3), 0);
    B.due("ends where the first can't be", last.ends(3, 3), 3);
    B.says("judge: two numbers each (a PERSON, a PLACE)");
    long[][] none = {{-1, 98}, {4, 98}, {3, -1}, {3, 5}, {3, 97}, {3, 100}, {1L << 32, 98}, {3 - (1L << 32), 98}, {3, 98 + (1L << 32)},
        {3, 98 - (1L << 32)}, {Long.MAX_VALUE, 98}, {Long.MIN_VALUE, 98}, {3, Long.MAX_VALUE}, {3, Long.MIN_VALUE}};
    BearsTwo wide = Bounds.Rich.make();
    for (long[] n : none) {
      put(wide, 3, 3, n);
      B.due("judge of " + n[0] + " " + n[1], wide.judge(3), 0);
      B.due("ends of " + n[0] + " " + n[1], wide.ends(3, 3), 3);
    }
    put(wide, 3, 3, 3, 98);
    B.due("judge of 3 98", wide.judge(3), 1);
    put(wide, 3, 3, 3, 99);
    B.due("judge of 3 99", wide.judge(3), 1);
    B.says("judge: done in thought: what the STEPS ahead have borne counts");
    BearsTwo worn = Told.of("river wide 2 long 1;stone at 0 1 bears 2;person stride 1 weight 1 worth 1;");
    put(worn, 0, 0, 0, 0, 0, 98, 0, 0, 0, 99, 0, 0);
    B.due("judge", worn.judge(0), 4);
    B.due("ends", worn.ends(0, 0), 99);
    B.due("judge again", worn.judge(0), 4);
    BearsTwo none2 = new BearsTwo();
    none2.row(0, 0, 2);
    B.due("judge without a RIVER", none2.judge(0), 0);
  }

  private static void go() {
    B.says("go: -2: there are none such");
    int[] noUnits = {-1, 2, 4, Integer.MIN_VALUE, Integer.MAX_VALUE};
    for (int u : noUnits) B.refused("go(" + u + ", 0)", x -> x.go(u, 0), -2);
    for (int w : NO_WAYS) B.refused("go(1, " + w + ")", x -> x.go(1, w), -2);
    B.staysNew("go(0, 0)", x -> x.go(0, 0), -2);
    B.says("go: -5: it is not on one bank, or there is no WAY");
    for (int way = 0; way < 4; way++) {
      int w = way;
      B.stays("go(3, " + way + "): on a STONE", x -> x.go(3, w), -5);
      BearsTwo x = Bounds.Rich.make();
      B.due("go(0, " + way + "): back", x.go(0, w), 3);
      B.due("person(0, 0)", x.person(0, 0), 98);
      B.due("go(0, " + way + "): 1 bears no more", x.go(0, w), -5);
      B.due("person(0, 0)", x.person(0, 0), 98);
      B.due("stone(0, 3)", x.stone(0, 3), 2);
      B.due("go(1, " + way + "): two of weight 3", x.go(1, w), 1);
      B.due("stone(3, 3)", x.stone(3, 3), 4);
      B.due("person(1, 0)", x.person(1, 0), 99);
      B.due("person(2, 0)", x.person(2, 0), 99);
      B.due("go(1, " + way + ")", x.go(1, w), 1);
      B.due("stone(3, 2)", x.stone(3, 2), 2);
      B.due("go(1, " + way + "): LEFT 2, weight 3", x.go(1, w), -5);
      B.due("stone(3, 3)", x.stone(3, 3), 7);
    }
    BearsTwo apart = Bounds.Rich.make();
    apart.step(1, 3);
    B.due("go(1, 0): one of two is on a STONE", apart.go(1, 0), -5);
    apart.step(1, 99);
    B.due("go(1, 0): one at 98, one at 99", apart.go(1, 0), -5);
    apart.step(2, 3);
    B.due("go(1, 0): one on a STONE, one at 99", apart.go(1, 0), -5);
    apart.step(2, 99);
    B.due("go(1, 0): both at 99", apart.go(1, 0), 1);
    B.due("both at 98", apart.person(1, 0) + apart.person(2, 0), 196);
    BearsTwo both = Bounds.Rich.make();
    both.step(1, 3);
    both.step(2, 3);
    B.due("go(1, 0): both on one STONE", both.go(1, 0), -5);
    BearsTwo bare = Told.of("river wide 9 long 1;person stride 9 weight 3 worth 1;person stride 8 weight 1 worth 1;");
    B.due("go(0, 0): no STONES are needed", bare.go(0, 0), 0);
    B.due("go(1, 0): there are none", bare.go(1, 0), -5);
    B.says("UNITS: stride the lesser, weight together");
    String pair = "river wide 3 long 2;stone at 0 1 bears B;stone at 0 2 bears B;stone at 1 1 bears 9;"
        + "person stride 2 weight 3 worth 1;person stride 1 weight 3 worth 1 hand 0;";
    B.due("go(0, 0): six of six", Told.of(pair.replace("B", "6")).go(0, 0), 2);
    B.due("go(0, 0): five of six", Told.of(pair.replace("B", "5")).go(0, 0), -5);
  }

  public static void main(String[] args) {
    stone();
    left();
    person();
    may();
    reach();
    hour();
    fresh();
    ways();
    longRows();
    ties();
    step();
    judge();
    go();
    B.finish();
  }
}
