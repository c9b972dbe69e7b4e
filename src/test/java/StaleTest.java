import java.util.ArrayList;
import java.util.List;

/** "The RIVER (in place of another)": of the other one nothing is left, whatever it was, and however it went. */
public final class StaleTest {
  private static final Bounds B = new Bounds();
  private static final String SMALL = "river wide 4 long 4;stone at 3 3 bears 2;stone at 3 2 bears 2;stone at 3 1 bears 3;"
      + "person stride 1 weight 1 worth 4;person stride 2 weight 1 worth 5;";
  private static final String OTHER = "river wide 5 long 3;stone at 0 4 bears 2 doubt 7;stone at 0 2 bears 2 sinks 3;stone at 2 1 bears 3;stone at 1 3 bears 1;"
      + "person stride 2 weight 1 worth 4;person stride 1 weight 2 worth 5 hand 0;plank 2;";

  /** All that a RIVER may have, and of each the most. */
  private static String big() {
    StringBuilder text = new StringBuilder("river wide 12 long 20;");
    for (int k = 0; k < 24; k++)
      text.append("stone at " + k % 12 + " " + (1 + k / 12) + " bears 9" + (k % 2 == 0 ? " sinks 1" : "") + (k % 7 == 0 ? " doubt 99;" : ";"));
    for (int p = 0; p < 8; p++)
      text.append("person stride 9 weight 3 worth 99" + (p > 0 ? " must back" : "") + (p % 2 == 1 && p != 3 ? " hand " + (p - 1) + ";" : ";"));
    return text + "plank 9;";
  }

  private static void tell(BearsTwo x, String text) {
    x.end(0);
    Told.feed(x, text);
    x.river();
  }

  /** An object that was used for a great RIVER and has everything of it changed. */
  private static BearsTwo used() {
    BearsTwo x = Told.of(big());
    x.hour(20);
    x.go(4, 0);
    x.step(2, 9);
    x.know(7, true);
    x.know(21, false);
    x.most(2, 1);
    x.order(0, 0);
    x.where(9, 1);
    x.planks(1);
    return x;
  }

  /** Much of what the face can tell, and what it refuses. */
  private static List<String> face(BearsTwo x) {
    List<String> all = new ArrayList<>();
    for (int s = 0; s < 5; s++)
      for (int what = 0; what < 5; what++) all.add("stone(" + s + ", " + what + ") = " + x.stone(s, what));
    for (int p = 0; p < 4; p++)
      for (int what = 0; what < 3; what++) all.add("person(" + p + ", " + what + ") = " + x.person(p, what));
    all.add("stone(23, 0) = " + x.stone(23, 0));
    all.add("person(7, 0) = " + x.person(7, 0));
    for (int what = 0; what < 12; what++) all.add("count(" + what + ") = " + x.count(what));
    int[] places = {0, 2, 3, 23, 98, 99};
    for (int a : places)
      for (int b : places) all.add("may(" + a + ", " + b + ", 2) = " + x.may(a, b, 2));
    for (int stride = 1; stride < 6; stride++) {
      all.add("reach(" + stride + ") = " + x.reach(stride));
      all.add("most = " + x.most(stride, 1) + ", " + x.most(stride, 2) + ", cut = " + x.cut(stride, 1) + ", " + x.cut(stride, 2));
      all.add("bars = " + x.bars(0, stride, 1) + ", " + x.bars(3, stride, 1));
      all.add("more = " + x.more(2, 2, 3, stride) + ", where = " + x.where(3, stride));
      all.add("moved = " + x.moved(1, 2, stride) + ", move = " + x.move(2, stride));
      all.add("plank = " + x.plank(0, 98, stride) + ", planks = " + x.planks(stride));
      all.add("sure = " + x.sure(stride, 1) + ", " + x.sure(stride, 2) + ", tread = " + x.tread(0, stride, 2) + ", first = " + x.first(stride, 2));
      all.add("keep = " + x.keep(stride, 2) + ", late = " + x.late(stride, 3) + ", noon = " + x.noon(stride, 1));
    }
    for (int way = 0; way < 4; way++) {
      all.add("length = " + x.length(1, 1, way) + ", " + x.length(2, 1, way) + ", path = " + x.path(2, 1, way, 0) + ", price = " + x.price(1, 2, way));
      all.add("alike = " + x.alike(2, 1, way) + ", days = " + x.days(way) + ", home = " + x.home(way) + ", gap = " + x.gap(way));
      for (int what = 0; what < 4; what++) all.add("over(" + way + ", " + what + ") = " + x.over(way, what));
      for (int what = 0; what < 4; what++) all.add("order(" + way + ", " + what + ") = " + x.order(way, what));
      all.add("run = " + x.run(5, way) + ", runs = " + x.runs(5, 9, way, 0) + ", " + x.runs(5, 9, way, 1) + ", " + x.runs(5, 9, way, 2));
    }
    all.add("best = " + x.best());
    for (int p = 2; p < 4; p++)
      for (int to : places) {
        x.row(0, 0, 2);
        x.write(0, 0, p);
        x.write(0, 1, to);
        all.add("judge of " + p + " " + to + " = " + x.judge(0));
      }
    x.row(0, 0, 1);
    x.write(0, 0, 3);
    all.add("cross of 3 = " + x.cross(0, 0) + ", waits = " + x.waits(0, 0));
    changes(x, all);
    return all;
  }

  private static void changes(BearsTwo x, List<String> all) {
    for (int n = 2; n < 5; n++) {
      all.add("go(" + n + ", 0) = " + x.go(n, 0));
      all.add("step(" + n + ", 0) = " + x.step(n, 0));
      all.add("step(0, " + n + ") = " + x.step(0, n));
      all.add("know(" + n + ", true) = " + x.know(n, true));
    }
    all.add("all(0) = " + x.all(0));
    all.add("fresh() = " + x.fresh());
    all.add("hour(3) = " + x.hour(3));
  }

  private static void inPlaceOf(String name, String text) {
    BearsTwo fresh = Told.of(text);
    fresh.row(0, 0, 0);
    List<String> want = face(fresh);
    BearsTwo x = used();
    tell(x, text);
    x.row(0, 0, 0);
    B.same(name + " in place of a great RIVER", face(x), want);
    BearsTwo y = Told.of(text);
    y.row(0, 0, 0);
    y.image(0);
    tell(y, big());
    y.go(4, 0);
    y.most(3, 1);
    y.order(0, 0);
    y.back(0);
    B.same(name + " gone back to from a great RIVER", face(y), want);
  }

  private static void none() {
    BearsTwo fresh = new BearsTwo();
    fresh.row(0, 0, 0);
    List<String> want = face(fresh);
    BearsTwo x = used();
    tell(x, "");
    x.row(0, 0, 0);
    B.same("no RIVER in place of a great one", face(x), want);
    BearsTwo y = new BearsTwo();
    y.row(0, 0, 0);
    y.image(2);
    tell(y, big());
    y.back(2);
    B.same("no RIVER gone back to", face(y), want);
  }

  /** What is found once is asked for again when something has changed. */
  private static void again() {
    B.says("order: behind each call that changes what there is");
    String two = "river wide 2 long 1;stone at 0 1 bears 2 sinks 9 doubt 50;" + "person stride 1 weight 1 worth 5;".repeat(3);
    Bounds.Call[] changes = {x -> x.hour(9), x -> x.step(0, 0), x -> x.go(0, 0), x -> x.all(0), x -> x.know(0, true), x -> x.back(1),
        x -> { tell(x, two.replace("bears 2", "bears 1")); return 0; }};
    int[] want = {0, 5, 5, 0, 5, 5, 5};
    for (int k = 0; k < changes.length; k++) {
      BearsTwo x = Told.of(two);
      x.step(2, 0);
      x.image(1);
      x.step(2, 98);
      x.fresh();
      B.due("order(0, 0)", x.order(0, 0), 10);
      changes[k].on(x);
      B.due("order(0, 0) behind change " + k, x.order(0, 0), want[k]);
      B.due("gap(0) behind change " + k, x.gap(0), 0);
    }
    BearsTwo worn = Told.of(two);
    worn.go(0, 0);
    B.due("order(0, 0)", worn.order(0, 0), 5);
    worn.fresh();
    B.due("order(0, 0) behind fresh()", worn.order(0, 0), 10);
    BearsTwo ways = Told.of("river wide 2 long 9;stone at 0 1 bears 2;stone at 5 1 bears 1;person stride 1 weight 1 worth 1;person stride 1 weight 2 worth 5;");
    B.due("order(0, 2)", ways.order(0, 2), 1);
    B.due("order(2, 2) by another WAY", ways.order(2, 2), 0);
    B.due("order(0, 2)", ways.order(0, 2), 1);
  }

  public static void main(String[] args) {
    B.says("The TAPE is the RIVER (in place of another); These are as IMAGE k has them");
    inPlaceOf("a small RIVER", SMALL);
    inPlaceOf("another RIVER", OTHER);
    inPlaceOf("a RIVER of one LINE", "river wide 2 long 1;");
    none();
    again();
    B.finish();
  }
}
