/** The boundary cases of term III and of promises 18 to 24: who gets over, in which order, home, in how many DAYS. */
public final class CrossingBoundsTest {
  private static final Bounds B = new Bounds();
  private static final int[] NO_WAYS = {-1, 4, Integer.MIN_VALUE, Integer.MAX_VALUE};
  private static final String ONE = "person stride 1 weight 1 worth 1";

  /** One STONE that bears so many, and these PEOPLE. */
  private static BearsTwo brook(int bears, String people) {
    return Told.of("river wide 2 long 1;stone at 0 1 bears " + bears + ";" + people);
  }

  private static void over() {
    B.says("over: -2: there are none such");
    for (int what = 0; what < 4; what++) {
      int w = what;
      for (int way : NO_WAYS) B.refused("over(" + way + ", " + w + ")", x -> x.over(way, w), -2);
      B.staysNew("over(0, " + w + ")", x -> x.over(0, w), -2);
    }
    int[] others = {-1, 4, Integer.MIN_VALUE, Integer.MAX_VALUE};
    for (int what : others) B.refused("over(0, " + what + ")", x -> x.over(0, what), -2);
    B.says("over: (in thought), what 0: PEOPLE, 1: worth, 2: PEOPLE as bits, 3: UNITS that must and are not");
    long[] told = {2, 10, 6, 0};
    for (int way = 0; way < 4; way++)
      for (int what = 0; what < 4; what++) {
        int v = way, w = what;
        B.stays("over(" + way + ", " + what + ")", x -> x.over(v, w), told[what]);
      }
    BearsTwo nobody = Told.of("river wide 2 long 1;");
    BearsTwo eight = brook(9, (ONE + " must;").repeat(8));
    long[] ofEight = {8, 8, 255, 0};
    for (int what = 0; what < 4; what++) {
      B.due("over(0, " + what + ") of nobody", nobody.over(0, what), 0);
      B.due("over(0, " + what + ") of eight", eight.over(0, what), ofEight[what]);
    }
    BearsTwo seven = brook(7, (ONE + " must;").repeat(8));
    long[] ofSeven = {7, 7, 127, 128};
    for (int what = 0; what < 4; what++) B.due("over(0, " + what + "), the eighth has no WAY", seven.over(0, what), ofSeven[what]);
    B.says("UNIT by UNIT of those at 98 (both, if two)");
    String pair = ONE + ";" + ONE + " must hand 0;";
    BearsTwo x = brook(9, pair);
    B.due("over(0, 2) of both", x.over(0, 2), 3);
    x.step(0, 0);
    B.due("over(0, 2), one stands on a STONE", x.over(0, 2), 0);
    B.due("over(0, 3)", x.over(0, 3), 1);
    x.step(0, 99);
    B.due("over(0, 2), one is at 99", x.over(0, 2), 0);
    B.due("over(0, 3): one of it is not at 99", x.over(0, 3), 1);
    x.step(1, 0);
    B.due("over(0, 3): one of it is on a STONE", x.over(0, 3), 1);
    x.step(1, 99);
    B.due("over(0, 3): both are at 99", x.over(0, 3), 0);
    B.due("over(0, 2): who is there does not go then", x.over(0, 2), 0);
    B.says("goes by its WAY, if there is one; the STONES have borne it then");
    for (int bears = 1; bears < 10; bears++) {
      BearsTwo y = brook(bears, "person stride 1 weight 3 worth 1;person stride 1 weight 2 worth 1;person stride 1 weight 1 worth 1;");
      int bits = 0, left = bears;
      for (int p = 0; p < 3; p++) if (left >= 3 - p) { bits |= 1 << p; left -= 3 - p; }
      B.due("over(0, 2) of 3 2 1 by " + bears, y.over(0, 2), bits);
      B.due("all(0) of 3 2 1 by " + bears, y.all(0), Integer.bitCount(bits));
      B.due("LEFT of " + bears, y.stone(0, 2), left);
    }
  }

  private static void all() {
    B.says("all: All this is done: how many PEOPLE. -2 likewise");
    for (int way : NO_WAYS) B.refused("all(" + way + ")", x -> x.all(way), -2);
    B.staysNew("all(0)", x -> x.all(0), -2);
    BearsTwo x = Bounds.Rich.make();
    B.due("all(3)", x.all(3), 2);
    B.due("stone(3, 3)", x.stone(3, 3), 4);
    int[] places = {99, 99, 99, 3};
    for (int p = 0; p < 4; p++) B.due("person(" + p + ", 0)", x.person(p, 0), places[p]);
    B.due("all(0): nobody is at 98", x.all(0), 0);
    B.due("stone(3, 3)", x.stone(3, 3), 4);
    B.due("all(0) of nobody", Told.of("river wide 2 long 1;").all(0), 0);
    BearsTwo none = brook(1, "person stride 1 weight 2 worth 1;");
    B.due("all(0) without a WAY", none.all(0), 0);
    B.due("person(0, 0)", none.person(0, 0), 98);
    B.due("stone(0, 3)", none.stone(0, 3), 0);
  }

  private static void order() {
    B.says("order: -2 likewise (asked ahead of -3)");
    for (int what = 0; what < 8; what++) {
      int w = what;
      for (int way : NO_WAYS) B.refused("order(" + way + ", " + w + ")", x -> x.order(way, w), -2);
      B.staysNew("order(0, " + w + ")", x -> x.order(0, w), -2);
    }
    int[] others = {-1, 8, Integer.MIN_VALUE, Integer.MAX_VALUE};
    BearsTwo seven = brook(9, (ONE + ";").repeat(7));
    for (int what : others) {
      B.refused("order(0, " + what + ")", x -> x.order(0, what), -2);
      B.due("order(0, " + what + ") of seven", seven.order(0, what), -2);
    }
    B.due("order(4, 0) of seven", seven.order(4, 0), -2);
    B.says("order: what 0: worth, 1: UNITS that must, 2: the first UNIT .. 7: the sixth (NONE: there is none such)");
    long[] told = {10, 0, 1, -1, -1, -1, -1, -1};
    for (int what = 0; what < 8; what++) {
      int w = what;
      B.stays("order(0, " + what + ")", x -> x.order(0, w), told[what]);
    }
    BearsTwo six = brook(9, (ONE + " must;").repeat(6));
    long[] ofSix = {6, 6, 0, 1, 2, 3, 4, 5};
    BearsTwo five = brook(9, (ONE + " must;").repeat(5));
    long[] ofFive = {5, 5, 0, 1, 2, 3, 4, -1};
    BearsTwo nobody = Told.of("river wide 2 long 1;");
    long[] ofNobody = {0, 0, -1, -1, -1, -1, -1, -1};
    for (int what = 0; what < 8; what++) {
      B.due("order(0, " + what + ") of six", six.order(0, what), ofSix[what]);
      B.due("order(0, " + what + ") of five", five.order(0, what), ofFive[what]);
      B.due("order(0, " + what + ") of nobody", nobody.order(0, what), ofNobody[what]);
    }
    B.says("order: -3: more than six UNITS are at 98");
    for (int what = 0; what < 8; what++) B.due("order(0, " + what + ") of seven", seven.order(0, what), -3);
    BearsTwo eight = brook(9, (ONE + ";").repeat(8));
    B.due("order(0, 0) of eight", eight.order(0, 0), -3);
    eight.step(7, 0);
    B.due("order(0, 0) of seven, one on a STONE", eight.order(0, 0), -3);
    eight.go(0, 0);
    B.due("order(0, 0) of six, one on a STONE, one over", eight.order(0, 0), 6);
    B.due("order(0, 2)", eight.order(0, 2), 1);
    B.due("order(0, 7)", eight.order(0, 7), 6);
    BearsTwo pairs = brook(9, (ONE + ";").repeat(6) + ONE + " hand 0;" + ONE + " hand 1;");
    B.due("order(0, 0) of eight PEOPLE in six UNITS", pairs.order(0, 0), 8);
    B.due("order(0, 7)", pairs.order(0, 7), 5);
    BearsTwo pair = brook(9, (ONE + ";").repeat(7) + ONE + " hand 6;");
    B.due("order(0, 0) of eight PEOPLE in seven UNITS", pair.order(0, 0), -3);
    pair.step(7, 0);
    B.due("order(0, 0), one of the seventh on a STONE", pair.order(0, 0), 6);
    B.due("order(0, 7)", pair.order(0, 7), 5);
  }

  private static void bestOrder() {
    B.says("BEST order: by which most UNITS that must are OVER, then most worth is, then the least row");
    // One of two gets over: who must, whatever the worth; of two who must the one of more worth; of two alike the lesser.
    String one = "person stride 1 weight 1 worth ";
    long[][] cases = {{0, 0, 0}, {5, 5, 0}, {5, 6, 1}, {6, 5, 0}, {98, 99, 1}};
    for (long[] c : cases) {
      BearsTwo x = brook(1, one + c[0] + ";" + one + c[1] + ";");
      B.due("order(0, 2) of " + c[0] + " " + c[1], x.order(0, 2), c[2]);
      B.due("order(0, 0)", x.order(0, 0), Math.max(c[0], c[1]));
    }
    BearsTwo must = brook(1, one + "99;" + one + "0 must;");
    B.due("order(0, 2): who must", must.order(0, 2), 1);
    B.due("order(0, 1)", must.order(0, 1), 1);
    B.due("order(0, 0)", must.order(0, 0), 0);
    BearsTwo both = brook(1, one + "1 must;" + one + "2 must;");
    B.due("order(0, 2): two who must", both.order(0, 2), 1);
    // Two light ones who must are more than a heavy one who must and is of more worth.
    BearsTwo many = brook(2, "person stride 1 weight 2 worth 99 must;" + one + "0 must;" + one + "0 must;");
    B.due("order(0, 1)", many.order(0, 1), 2);
    B.due("order(0, 0)", many.order(0, 0), 0);
    B.due("order(0, 2)", many.order(0, 2), 1);
    B.due("order(0, 3): 1 0 2 would leave room for 1 and 2 too", many.order(0, 3), 0);
    B.due("order(0, 4)", many.order(0, 4), 2);
    // Who needs no STONE is OVER in any order; who of the others goes first is what counts.
    String bare = "person stride 2 weight 3 worth 5;";
    B.due("order(0, 0) with one who needs no STONE", brook(1, one + "1;" + one + "2;" + bare).order(0, 0), 7);
    B.due("order(0, 2)", brook(1, one + "1;" + one + "2;" + bare).order(0, 2), 1);
    B.due("order(0, 3)", brook(1, one + "1;" + one + "2;" + bare).order(0, 3), 0);
    B.due("order(0, 1) with one who must and needs no STONE", brook(1, one + "1;" + one + "2 must;" + bare.replace(";", " must;")).order(0, 1), 2);
    // Nobody can go: the least row of all who are there.
    BearsTwo none = brook(1, "person stride 1 weight 2 worth 9;".repeat(3));
    long[] row = {0, 0, 0, 1, 2, -1};
    for (int what = 0; what < 6; what++) B.due("order(0, " + what + ") where nobody can go", none.order(0, what), row[what]);
  }

  private static void gap() {
    B.says("gap: NOTHING (-1,000,000): as -2, -3 there");
    for (int way : NO_WAYS) B.refused("gap(" + way + ")", x -> x.gap(way), -1000000);
    B.staysNew("gap(0)", x -> x.gap(0), -1000000);
    B.due("gap(0) of seven", brook(9, (ONE + ";").repeat(7)).gap(0), -1000000);
    B.due("gap(0) of six", brook(9, (ONE + ";").repeat(6)).gap(0), 0);
    B.due("gap(0) of nobody", Told.of("river wide 2 long 1;").gap(0), 0);
    B.says("gap: worth OVER by the BEST order less that in order");
    B.stays("gap(0)", x -> x.gap(0), 0);
    BearsTwo rich = Bounds.Rich.make();
    B.range("gap(n)", 0, 3, -1000000, way -> rich.gap(way));
    String one = "person stride 1 weight 1 worth ";
    B.due("gap(0) of 0 and 99", brook(1, one + "0;" + one + "99;").gap(0), 99);
    B.due("gap(0) of 99 and 0 who must", brook(1, one + "99;" + one + "0 must;").gap(0), -99);
  }

  private static void home() {
    B.says("home: -2 likewise");
    for (int way : NO_WAYS) B.refused("home(" + way + ")", x -> x.home(way), -2);
    B.staysNew("home(0)", x -> x.home(0), -2);
    B.says("home: those UNITS that are at 99 then and are to come back go back in order by that WAY");
    // 1 and 2 go over by STONE 3 (LEFT 8, then 5) and back by it (2).
    for (int way = 0; way < 4; way++) {
      int w = way;
      B.stays("home(" + way + ")", x -> x.home(w), 2);
    }
    B.due("home(0) of nobody", Told.of("river wide 2 long 1;").home(0), 0);
    String[] people = {ONE + " back;", ONE + " back;", ONE + ";"};
    for (int bears = 1; bears < 8; bears++) {
      BearsTwo x = brook(bears, String.join("", people));
      B.due("home(0) by " + bears, x.home(0), Math.max(0, Math.min(2, bears - 3)));
    }
    BearsTwo there = brook(2, ONE + " back;");
    there.go(0, 0);
    B.due("home(0) of one who was there", there.home(0), 1);
    there.go(0, 0);
    B.due("home(0): the STONE bears no more", there.home(0), 0);
    B.due("home(0) of one who needs no STONE", Told.of("river wide 2 long 1;person stride 2 weight 1 worth 1 back;").home(0), 1);
    B.due("home(0) of one who needs none, of one who does", Told.of("river wide 3 long 1;person stride 3 weight 1 worth 1 back;person stride 2 weight 1 worth 1 back;").home(0), 1);
    BearsTwo half = brook(9, ONE + " back;" + ONE + " hand 0;");
    B.due("home(0) of two", half.home(0), 2);
    half.step(0, 0);
    half.step(0, 99);
    B.due("home(0), one of two is at 98", half.home(0), 0);
  }

  private static void days() {
    B.says("days: -2 likewise");
    for (int way : NO_WAYS) B.refused("days(" + way + ")", x -> x.days(way), -2);
    B.staysNew("days(0)", x -> x.days(0), -2);
    B.says("days: In how many DAYS nobody is at 98 any more (0: nobody is)");
    for (int way = 0; way < 4; way++) {
      int w = way;
      B.stays("days(" + way + ")", x -> x.days(w), 1);
    }
    B.due("days(0) of nobody", Told.of("river wide 2 long 1;").days(0), 0);
    for (int n = 1; n < 9; n++)
      for (int bears = 1; bears < 10; bears++)
        B.due("days(0) of " + n + " by " + bears, brook(bears, (ONE + ";").repeat(n)).days(0), (n + bears - 1) / bears);
    BearsTwo gone = brook(1, ONE + ";" + ONE + ";");
    gone.go(0, 0);
    B.due("days(0), STONES are clean at first", gone.days(0), 1);
    gone.fresh();
    gone.step(1, 0);
    B.due("days(0), one on a STONE is not at 98", gone.days(0), 0);
    B.says("days: NONE: on some day nobody gets OVER");
    B.due("days(0) of one too heavy", brook(2, "person stride 1 weight 3 worth 1;").days(0), -1);
    B.due("days(0) of one not too heavy", brook(3, "person stride 1 weight 3 worth 1;").days(0), 1);
    B.due("days(0), the last one is too heavy", brook(2, (ONE + ";").repeat(7) + "person stride 1 weight 3 worth 1;").days(0), -1);
    BearsTwo sunk = Told.of("river wide 2 long 1;stone at 0 1 bears 1 sinks 5;" + ONE + ";");
    sunk.hour(4);
    B.due("days(0) an HOUR ahead", sunk.days(0), 1);
    sunk.hour(5);
    B.due("days(0) at the HOUR", sunk.days(0), -1);
    BearsTwo half = brook(9, ONE + ";" + ONE + " hand 0;" + ONE + ";");
    half.step(0, 0);
    B.due("days(0), one of two alone", half.days(0), -1);
    half.step(0, 98);
    B.due("days(0), both", half.days(0), 1);
  }

  private static void best() {
    B.says("best: The WAY by which most worth is OVER in order, the first of several. -2: no RIVER");
    B.staysNew("best()", x -> x.best(), -2);
    B.stays("best()", x -> x.best(), 0);
    B.due("best() of nobody", Told.of("river wide 2 long 1;").best(), 0);
    B.due("best() of worth 0", brook(1, "person stride 1 weight 1 worth 0;").best(), 0);
    // Who comes first takes the fresh one by 0 (its number), the worn one by 2, the firm one by 3.
    String two = "person stride 1 weight 1 worth 1;person stride 1 weight 2 worth 5;";
    B.due("best(): worn", Told.of("river wide 2 long 9;stone at 0 1 bears 2;stone at 5 1 bears 1;" + two).best(), 2);
    B.due("best(): all alike", Told.of("river wide 2 long 9;stone at 0 1 bears 1;stone at 5 1 bears 2;" + two).best(), 0);
    // Spare: STONE 0 is in reach of the others, 1 of nobody but him.
    BearsTwo spare = Told.of("river wide 3 long 9;stone at 0 1 bears 1;stone at 0 2 bears 1;stone at 5 2 bears 1;"
        + "person stride 2 weight 1 worth 1;person stride 1 weight 1 worth 1;");
    B.due("over(0, 1)", spare.over(0, 1), 1);
    B.due("over(1, 1)", spare.over(1, 1), 2);
    B.due("best(): spare", spare.best(), 1);
    // Firm: the first goes by 1, which bears three, so that weight 1 twice can go by 0 ..
    BearsTwo firm = Told.of("river wide 3 long 9;stone at 0 1 bears 1;stone at 0 2 bears 1;stone at 5 2 bears 2;stone at 5 1 bears 1;"
        + "person stride 2 weight 1 worth 1;person stride 1 weight 1 worth 1;person stride 1 weight 1 worth 1;");
    for (int way = 0; way < 4; way++) B.due("over(" + way + ", 1)", firm.over(way, 1), way == 3 ? 3 : 2);
    B.due("best(): firm", firm.best(), 3);
  }

  public static void main(String[] args) {
    over();
    all();
    order();
    bestOrder();
    gap();
    home();
    days();
    best();
    B.finish();
  }
}
