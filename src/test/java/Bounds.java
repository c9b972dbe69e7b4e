import java.util.ArrayList;
import java.util.List;

/** What the tests of boundary cases share: which sentence is tested, what is due, and that all stays. */
final class Bounds {
  /** A call on an object. */
  interface Call { long on(BearsTwo x); }

  private String sentence = "";
  private int asked = 0;
  private int wrong = 0;

  /** The sentence of the document that the next answers are about. */
  void says(String words) { sentence = words; }

  void due(String call, long got, long want) {
    asked++;
    if (got != want) complain(call + " answered " + got + ", due is " + want);
  }

  /** The numbers from..to are allowed, those just beyond are refused, and so are the farthest. */
  void range(String name, int from, int to, int refusal, java.util.function.IntToLongFunction call) {
    for (int n = from; n <= to; n++) {
      asked++;
      if (call.applyAsLong(n) == refusal) complain(name + " of " + n + " was refused");
    }
    int[] beyond = {from - 1, to + 1, Integer.MIN_VALUE, Integer.MAX_VALUE};
    for (int n : beyond) due(name + " of " + n, call.applyAsLong(n), refusal);
  }

  /** The call answers so, and whatever the face tells is as if it had not been made. */
  void stays(String call, Call made, long want) {
    BearsTwo x = Rich.make();
    BearsTwo y = Rich.make();
    due(call, made.on(x), want);
    same(call, Rich.dump(x), Rich.dump(y));
  }

  /** The same for an object that has no RIVER. */
  void staysNew(String call, Call made, long want) {
    BearsTwo x = new BearsTwo();
    due(call + " without a RIVER", made.on(x), want);
    same(call + " without a RIVER", Rich.dump(x), Rich.dump(new BearsTwo()));
  }

  /** Refused with a RIVER and without one. */
  void refused(String call, Call made, long want) {
    stays(call, made, want);
    staysNew(call, made, want);
  }

  void same(String call, List<String> got, List<String> want) {
    asked++;
    for (int i = 0; i < want.size(); i++) {
      if (i >= got.size() || !got.get(i).equals(want.get(i))) {
        complain("behind " + call + ": " + (i < got.size() ? got.get(i) : "nothing") + ", due is " + want.get(i));
        return;
      }
    }
  }

  private void complain(String words) {
    wrong++;
    System.out.println("\"" + sentence + "\": " + words);
  }

  void finish() {
    System.out.println(wrong == 0 ? asked + " answers are as due" : wrong + " of " + asked + " answers are not as due");
    if (wrong != 0) System.exit(1);
  }

  /** An object of which everything that can be held is held, and all that its face tells of it. */
  static final class Rich {
    private Rich() { }

    static final String OTHER = "river wide 3 long 2;stone at 1 2 bears 4;person stride 2 weight 1 worth 8;";
    /** 0 1 2 a column, 3 and 4 beside it; 1 and 2 go hand in hand; stride 4 goes over without STONES. */
    static final String MAIN = "river wide 4 long 5;stone at 0 1 bears 3;stone at 0 2 bears 2 doubt 40;stone at 0 3 bears 3;"
        + "stone at 2 2 bears 9 sinks 12;stone at 3 2 bears 5 doubt 25;"
        + "person stride 1 weight 1 worth 5 must;person stride 2 weight 1 worth 3 back;"
        + "person stride 2 weight 2 worth 7 hand 1;person stride 9 weight 1 worth 9;plank 2;";

    /** IMAGES 0 and 1, SLOTS 0 to 2, a FAULT, a TAPE; HOUR 7, 0 is over, 3 stands on 3, 4 is known to bear one. */
    static BearsTwo make() {
      BearsTwo x = Told.of(OTHER);
      x.image(0);
      Told.feed(x, MAIN);
      x.river();
      x.image(1);
      x.hour(7);
      x.go(0, 0);
      x.know(4, true);
      x.step(3, 3);
      Told.feed(x, "river wide 1 long 1;");
      x.river();
      Told.feed(x, "river wide 2 long 1;plank 4;");
      long[] stones = {0, 1, 2, 4};
      x.row(0, 1, 4);
      for (int i = 0; i < 4; i++) x.write(0, i, stones[i]);
      x.row(1, 3, 0);
      long[] steps = {3, 0, 1};
      x.row(2, 0, 3);
      for (int i = 0; i < 3; i++) x.write(2, i, steps[i]);
      return x;
    }

    /** What is asked changes the object, so it is of no use then. */
    static List<String> dump(BearsTwo x) {
      List<String> all = new ArrayList<>();
      for (int what = 0; what < 2; what++) all.add("fault(" + what + ") = " + x.fault(what));
      state(x, all);
      slots(x, all);
      all.add("river() = " + x.river());
      all.add("fault(0) = " + x.fault(0));
      for (int what = 0; what < 12; what++) all.add("count(" + what + ") of the TAPE = " + x.count(what));
      for (int k = 0; k < 3; k++) {
        all.add("back(" + k + ") = " + x.back(k));
        state(x, all);
      }
      return all;
    }

    /** The RIVER and what changes of it. */
    static void state(BearsTwo x, List<String> all) {
      for (int what = 0; what < 12; what++) all.add("count(" + what + ") = " + x.count(what));
      for (int s = 0; s < x.count(2); s++)
        for (int what = 0; what < 5; what++) all.add("stone(" + s + ", " + what + ") = " + x.stone(s, what));
      for (int p = 0; p < x.count(3); p++)
        for (int what = 0; what < 3; what++) all.add("person(" + p + ", " + what + ") = " + x.person(p, what));
      all.add("reach(1) = " + x.reach(1));
      all.add("sure(2, 2) = " + x.sure(2, 2));
      all.add("over(0, 1) = " + x.over(0, 1));
      all.add("order(0, 0) = " + x.order(0, 0));
      all.add("home(0) = " + x.home(0));
    }

    /** Whether there is a row, its WIDTH, how many numbers it has, and these where they are STONES. */
    static void slots(BearsTwo x, List<String> all) {
      for (int slot = 0; slot < 4; slot++) {
        all.add("judge(" + slot + ") = " + x.judge(slot));
        all.add("cross(" + slot + ", " + slot + ") = " + x.cross(slot, slot));
        all.add("waits(" + slot + ", 0) = " + x.waits(slot, 0));
      }
      for (int slot = 0; slot < 3; slot++) {
        int width = 0;
        for (int w = 0; w < 4; w++) {
          x.row(3, w, 0);
          if (x.paste(slot, 0, 3, 0, 0) == 0) width = w;
        }
        all.add("WIDTH of " + slot + " = " + width);
        for (int i = 0; i < 5; i++) {
          x.row(3, width, 2);
          x.write(3, 0, 3);
          all.add("number " + i + " of " + slot + ": " + x.paste(slot, i, 3, 1, 1) + ", " + x.ends(3, 3));
        }
      }
    }
  }
}
