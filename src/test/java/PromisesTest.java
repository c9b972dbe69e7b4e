/** Each promise by answers worked out by hand: ordinary inputs, the document's edges, wrong inputs. */
public final class PromisesTest {
  private static int wrong = 0;
  private static int asked = 0;
  private static int promise = 0;

  private static void due(long got, long want, String what) {
    asked++;
    if (got != want) {
      wrong++;
      System.out.println("promise " + promise + ": " + what + " answered " + got + ", due is " + want);
    }
  }

  /** A column of three (0 1 2) and two beside its middle: stride 1 goes by the column alone. */
  private static final String COLUMN = "river wide 4 long 3;stone at 0 1 bears 2;stone at 0 2 bears 1;stone at 0 3 bears 2;"
      + "stone at 1 2 bears 3 doubt 40;stone at 2 2 bears 9 sinks 12;";
  private static final String FAMILY = COLUMN + "person stride 1 weight 1 worth 5 must;"
      + "person stride 2 weight 1 worth 3 back;person stride 1 weight 2 worth 7 hand 1;plank 2;";
  /** Two stones side by side in the middle of a brook. */
  private static final String BROOK = "river wide 2 long 2;stone at 0 1 bears 2;stone at 1 1 bears 1;";

  private static String people(int n, String each) { return each.repeat(n); }

  // ---- 1 to 5: the text

  private static void newObject() {
    promise = 1;
    BearsTwo x = new BearsTwo();
    int[] counts = {0, 0, 0, 0, 0, 0, 0, 0, 0, 0, 0, 0};
    for (int what = 0; what < counts.length; what++) due(x.count(what), counts[what], "count(" + what + ")");
    due(x.stone(0, 0), -2, "stone");
    due(x.person(0, 0), -2, "person");
    due(x.reach(1), -2, "reach");
    due(x.may(98, 99, 9), -2, "may");
    due(x.hour(0), -2, "hour");
    due(x.fresh(), 0, "fresh");
    due(x.best(), -2, "best");
    due(x.go(0, 0), -2, "go");
    due(x.planks(1), -2, "planks");
    due(x.late(1, 0), -2, "late");
    due(x.noon(1, 0), -2, "noon");
    due(x.gap(0), -1000000, "gap");
    due(x.days(0), -2, "days");
    due(x.home(0), -2, "home");
    due(x.first(1, 1), -2, "first");
    due(x.keep(1, 1), -2, "keep");
    due(BearsTwo.NONE, -1, "NONE");
  }

  private static void feed() {
    promise = 2;
    BearsTwo x = new BearsTwo();
    for (int k = 1; k <= 80; k++) due(x.feed(k, -k, 0, Integer.MIN_VALUE, 7), 20 * k, "feed " + k);
    due(x.feed(1, 2, 3, 4, 5), -1, "feed 81");
    due(x.count(6), 1600, "count(6)");
    x.end(1581);
    due(x.feed(1, 2, 3, 4, 5), -1, "feed beyond 1,600");
    due(x.count(6), 1581, "count(6)");
    x.end(1580);
    due(x.feed(1, 2, 3, 4, 5), 1600, "feed up to 1,600");
    BearsTwo y = new BearsTwo();
    // "rive" "r wi" "de 2" " lon" "g 1;": the highest byte comes first.
    due(y.feed(0x72697665, 0x72207769, 0x64652032, 0x206c6f6e, 0x6720313b), 20, "feed");
    due(y.river(), 1, "river");
    due(y.count(0), 2, "count(0)");
  }

  private static void end() {
    promise = 3;
    BearsTwo x = new BearsTwo();
    due(x.end(0), 0, "end(0)");
    due(x.end(1), -1, "end(1)");
    Told.feed(x, "river wide 3 long 2; and more");
    due(x.end(-1), -1, "end(-1)");
    due(x.end(30), -1, "end(30)");
    due(x.count(6), 29, "count(6)");
    due(x.end(29), 29, "end(29)");
    due(x.end(20), 20, "end(20)");
    due(x.end(21), -1, "end(21)");
    due(x.river(), 1, "river");
    due(x.count(6), 0, "count(6)");
  }

  private static void river() {
    promise = 4;
    BearsTwo x = Told.of(FAMILY);
    due(x.count(5), 10, "LINES");
    due(x.count(2), 5, "STONES");
    due(x.count(3), 3, "PEOPLE");
    due(x.count(6), 0, "the TAPE");
    x.hour(12);
    x.go(0, 0);
    x.know(3, true);
    Told.feed(x, "river wide 4 long 3;stone;");
    due(x.river(), -4, "a FAULT");
    due(x.count(6), 0, "the TAPE behind a FAULT");
    due(x.count(5), 10, "LINES stay");
    due(x.count(4), 12, "the HOUR stays");
    due(x.person(0, 0), 99, "PLACES stay");
    due(x.stone(3, 4), 1, "what is known stays");
    due(x.stone(0, 3), 1, "what was borne stays");
    Told.feed(x, FAMILY);
    due(x.river(), 10, "the same once more");
    due(x.count(4), 0, "HOUR 0");
    due(x.person(0, 0), 98, "all at 98");
    due(x.stone(3, 4), -1, "nothing is known");
    due(x.stone(0, 3), 0, "nothing was borne");
    due(x.river(), 0, "an empty TAPE");
    due(x.count(5), 0, "LINES");
    due(x.reach(1), -2, "no RIVER");
    Told.feed(x, " \n ");
    due(x.river(), 0, "blanks");
    Told.feed(x, "river wide 12 long 20 ;\n\nplank 9;river");
    x.end(33);
    due(x.river(), 2, "words and blanks");
    Told.feed(x, "river wide2long1;stone at 0 1bears9sinks 23 doubt99;person stride9weight3worth 0must back;");
    due(x.river(), 3, "no blanks where none are needed");
  }

  private static void faultIs(String text, int kind, int place) {
    BearsTwo x = new BearsTwo();
    Told.feed(x, text);
    due(x.river(), kind == 0 ? x.count(5) : -4, "river of " + text);
    due(x.fault(0), kind, "fault(0) of " + text);
    due(x.fault(1), place, "fault(1) of " + text);
  }

  private static final String R = "river wide 5 long 5;"; // 20 bytes
  private static final String S = "stone at 0 1 bears 2;"; // 21 bytes
  private static final String P = "person stride 1 weight 1 worth 5;"; // 33 bytes

  private static void fault() {
    promise = 5;
    BearsTwo x = new BearsTwo();
    due(x.fault(0), 0, "fault(0) ahead of any");
    due(x.fault(1), -1, "fault(1) ahead of any");
    due(x.fault(2), -1, "fault(2)");
    due(x.fault(-1), -1, "fault(-1)");
    Told.feed(x, "x");
    x.river();
    due(x.fault(0), 1, "fault(0)");
    due(x.fault(1), 0, "fault(1)");
    due(x.fault(2), -1, "fault(2)");
    x.river();
    due(x.fault(0), 0, "fault(0) behind a sound one");
    due(x.fault(1), -1, "fault(1) behind a sound one");
    faultsOfForm();
    faultsOfNumbers();
    faultsOfCrowds();
  }

  private static void faultsOfForm() {
    faultIs(R, 0, -1);
    faultIs("river wide 1", 2, 11);
    faultIs("river wide 5", 1, 12);
    faultIs("river wide 5 long 5", 1, 19);
    faultIs("river wide 5 long 5  ", 1, 21);
    faultIs(";", 1, 0);
    faultIs(R + ";", 1, 20);
    faultIs(R + " river wide 5 long 5;", 1, 21);
    faultIs("stone at 0 1 bears 2;", 1, 0);
    faultIs("plank 3;" + R, 1, 0);
    faultIs("rivers wide 5 long 5;", 1, 0);
    faultIs("riverwide 5 long 5;", 1, 0);
    faultIs("diver wide 5 long 5;", 1, 0);
    faultIs("rivet wide 5 long 5;", 1, 0);
    faultIs("River wide 5 long 5;", 1, 0);
    faultIs("river long 5 wide 5;", 1, 6);
    faultIs("river wide wide 5;", 1, 11);
    faultIs("river wide 5 long 5 5;", 1, 20);
    faultIs("river\twide 5 long 5;", 1, 5);
    faultIs("river wide 5 long 5;\r", 1, 20);
    faultIs("river wide -5 long 5;", 1, 11);
    faultIs("river wide 5 long 5;\u00e9", 1, 20);
    faultIs(R + "stone at 0 1 bears 2 doubt 5 sinks 3;", 1, 49);
    faultIs(R + "stone at 0 1;", 1, 32);
    faultIs(R + "person stride 1 weight 1 worth 5 back must;", 1, 58);
    faultIs(R + "person stride 1 weight 1 worth 5 must must;", 1, 58);
    faultIs(R + P + "person stride 1 weight 1 worth 5 hand 0 back;", 1, 93);
    faultIs(R + P + "person stride 1 weight 1 worth 5 hand;", 1, 90);
    faultIs(R + "planks 3;", 1, 20);
    faultIs(R + "plank3;", 0, -1);
    faultIs(R + "stone at 0 1 bears 1 doubtz 5;", 1, 41);
    faultIs(R + "stone at 0 1 bears 1 adoubt 5;", 1, 41);
    faultIs(R + "stone at 0 1 bears 1`", 1, 40);
    faultIs(R + "stone at 0 1 bears 1{", 1, 40);
    faultIs(R + "stone at 0 1 bears 1/", 1, 40);
    faultIs(R + "stone at 0 1 bears 1:", 1, 40);
    faultIs(R + "at 3;", 1, 20);
  }

  private static void faultsOfNumbers() {
    faultIs("river wide 2 long 1;", 0, -1);
    faultIs("river wide 13 long 5;", 2, 11);
    faultIs("river wide 12 long 20;", 0, -1);
    faultIs("river wide 5 long 0;", 2, 18);
    faultIs("river wide 5 long 21;", 2, 18);
    faultIs("river wide 99999999999999999999999999 long 5;", 2, 11);
    faultIs("river wide 4294967298 long 5;", 2, 11);
    faultIs("river wide 0005 long 0000000000000000005;", 0, -1);
    faultIs(R + "stone at 4 4 bears 9 sinks 23 doubt 99;", 0, -1);
    faultIs(R + "stone at 5 1 bears 2;", 2, 29);
    faultIs(R + "stone at 4 0 bears 2;", 2, 31);
    faultIs(R + "stone at 4 5 bears 2;", 2, 31);
    faultIs(R + S + S, 2, 52);
    faultIs(R + S + "stone at 0 1", 2, 52);
    faultIs(R + S + "stone at 1 1 bears 2;stone at 0 2 bears 2;", 0, -1);
    faultIs(R + "stone at 0 1 bears 0;", 2, 39);
    faultIs(R + "stone at 0 1 bears 10;", 2, 39);
    faultIs(R + "stone at 0 1 bears 1 sinks 0;", 2, 47);
    faultIs(R + "stone at 0 1 bears 1 sinks 24;", 2, 47);
    faultIs(R + "stone at 0 1 bears 1 doubt 0;", 2, 47);
    faultIs(R + "stone at 0 1 bears 1 doubt 100;", 2, 47);
    faultIs(R + "person stride 0 weight 1 worth 5;", 2, 34);
    faultIs(R + "person stride 10 weight 1 worth 5;", 2, 34);
    faultIs(R + "person stride 9 weight 4 worth 5;", 2, 43);
    faultIs(R + "person stride 9 weight 0 worth 5;", 2, 43);
    faultIs(R + "person stride 9 weight 3 worth 100;", 2, 51);
    faultIs(R + "person stride 9 weight 3 worth 0 must back;", 0, -1);
    faultIs(R + "person stride 1 weight 1 worth 5 hand 0;", 2, 58);
    faultIs(R + P + "person stride 1 weight 1 worth 5 hand 1;", 2, 91);
    faultIs(R + P + P + "person stride 1 weight 1 worth 5 hand 1;person stride 1 weight 1 worth 5 hand 1;", 2, 164);
    faultIs(R + P + P + "person stride 1 weight 1 worth 5 hand 1;person stride 1 weight 1 worth 5 hand 2;", 2, 164);
    faultIs(R + P + P + "person stride 1 weight 1 worth 5 hand 1;person stride 1 weight 1 worth 5 hand 0;", 0, -1);
    faultIs(R + "plank 0;", 2, 26);
    faultIs(R + "plank 1;", 0, -1);
    faultIs(R + "plank 10;", 2, 26);
    faultIs(R + "plank 9;plank 9;", 2, 28);
  }

  private static String stones(int n, String rest) {
    StringBuilder text = new StringBuilder();
    for (int k = 0; k < n; k++) text.append("stone at ").append(k % 5).append(' ').append(1 + k / 5).append(rest).append(';');
    return text.toString();
  }

  private static void faultsOfCrowds() {
    String wide = "river wide 9 long 5;";
    faultIs(wide + stones(4, " bears 2 doubt 9"), 0, -1);
    faultIs(wide + stones(5, " bears 2 doubt 9"), 2, 20 + 4 * 29 + 21);
    faultIs(wide + "stone at 4 8 bears 2;" + stones(4, " bears 2 doubt 9") + "stone at 3 8 bears 2;", 0, -1);
    faultIs(wide + stones(4, " bears 2 doubt 1"), 0, -1);
    faultIs(wide + stones(5, " bears 2 doubt 1"), 2, 20 + 4 * 29 + 21);
    faultIs(wide + stones(24, " bears 2"), 0, -1);
    faultIs(wide + stones(25, " bears 2"), 3, 20 + 24 * 21);
    faultIs(wide + stones(24, " bears 2") + "stone", 3, 20 + 24 * 21);
    faultIs(wide + P.repeat(8), 0, -1);
    faultIs(wide + P.repeat(9), 3, 20 + 8 * 33);
    faultIs(wide + P.repeat(8) + "person #", 3, 20 + 8 * 33);
    faultIs(wide + P.repeat(8) + "# person", 1, 20 + 8 * 33);
  }

  // ---- 6 to 11: what is told of

  private static void stone() {
    promise = 6;
    BearsTwo x = Told.of(FAMILY);
    int[][] want = {{0, 1, 2, 0, 0}, {0, 2, 1, 0, 0}, {0, 3, 2, 0, 0}, {1, 2, 3, 0, -1}, {2, 2, 9, 0, 0}};
    for (int s = 0; s < 5; s++)
      for (int what = 0; what < 5; what++) due(x.stone(s, what), want[s][what], "stone(" + s + ", " + what + ")");
    due(x.stone(5, 0), -2, "stone(5, 0)");
    due(x.stone(-1, 0), -2, "stone(-1, 0)");
    due(x.stone(98, 0), -2, "stone(98, 0)");
    due(x.stone(0, 5), -2, "stone(0, 5)");
    due(x.stone(0, -1), -2, "stone(0, -1)");
    x.step(1, 3);
    due(x.stone(3, 2), 2, "LEFT behind a step");
    due(x.stone(3, 3), 1, "borne");
    x.know(3, true);
    due(x.stone(3, 2), 0, "LEFT of one that bears one and has borne one");
    due(x.stone(3, 4), 1, "known");
    x.fresh();
    due(x.stone(3, 2), 1, "LEFT of one that bears one");
    x.hour(11);
    due(x.stone(4, 2), 9, "LEFT ahead of its HOUR");
    x.hour(12);
    due(x.stone(4, 2), 0, "LEFT at its HOUR");
    x.hour(23);
    due(x.stone(4, 2), 0, "LEFT behind its HOUR");
    due(x.stone(4, 3), 0, "borne of one that is under");
    BearsTwo y = Told.of("river wide 2 long 1;stone at 0 1 bears 9 doubt 50;person stride 1 weight 3 worth 0;");
    y.step(0, 0);
    y.know(0, true);
    due(y.stone(0, 2), 0, "LEFT is 0 at least");
    due(y.stone(0, 3), 3, "borne");
    BearsTwo z = Told.of("river wide 2 long 1;stone at 0 1 bears 9 doubt 50;");
    z.know(0, false);
    due(z.stone(0, 4), 0, "known to bear as told");
    due(z.stone(0, 2), 9, "LEFT");
  }

  private static void person() {
    promise = 7;
    BearsTwo x = Told.of(FAMILY);
    int[][] want = {{98, -1, 0}, {98, 2, 1}, {98, 1, 1}};
    for (int p = 0; p < 3; p++)
      for (int what = 0; what < 3; what++) due(x.person(p, what), want[p][what], "person(" + p + ", " + what + ")");
    due(x.person(3, 0), -2, "person(3, 0)");
    due(x.person(-1, 0), -2, "person(-1, 0)");
    due(x.person(0, 3), -2, "person(0, 3)");
    due(x.person(0, -1), -2, "person(0, -1)");
    x.step(0, 0);
    due(x.person(0, 0), 0, "PLACE on a STONE");
  }

  private static void may() {
    promise = 8;
    BearsTwo x = Told.of(FAMILY);
    int[][] want = {{98, 0, 1, 1}, {0, 98, 1, 1}, {98, 1, 1, 0}, {98, 1, 2, 1}, {0, 1, 1, 1}, {1, 0, 1, 1}, {0, 2, 1, 0},
        {0, 2, 2, 1}, {0, 3, 1, 0}, {0, 3, 2, 1}, {0, 4, 2, 0}, {0, 4, 3, 1}, {2, 99, 1, 1}, {99, 2, 1, 1}, {1, 99, 1, 0},
        {1, 99, 2, 1}, {0, 99, 2, 0}, {0, 99, 3, 1}, {98, 99, 3, 0}, {98, 99, 4, 1}, {99, 98, 4, 1}, {99, 98, 3, 0}, {0, 0, 9, 0},
        {98, 98, 9, 0}, {99, 99, 9, 0}, {5, 0, 1, -2}, {0, 5, 1, -2}, {97, 0, 1, -2}, {100, 0, 1, -2}, {-1, 0, 1, -2}, {0, 1, 0, -2},
        {0, 1, 10, -2}, {0, 0, 0, -2}, {5, 5, 1, -2}};
    for (int[] w : want) due(x.may(w[0], w[1], w[2]), w[3], "may(" + w[0] + ", " + w[1] + ", " + w[2] + ")");
    x.hour(20);
    due(x.may(98, 4, 2), 1, "may of a STONE that is under");
    due(Told.of("river wide 9 long 1;").may(98, 99, 9), 1, "may without STONES");
  }

  private static void reach() {
    promise = 9;
    BearsTwo x = Told.of(FAMILY);
    due(x.reach(1), 31, "reach(1)");
    due(x.reach(0), -2, "reach(0)");
    due(x.reach(10), -2, "reach(10)");
    x.hour(12);
    due(x.reach(1), 15, "reach(1) at 12");
    x.step(1, 1);
    due(x.reach(1), 1, "reach(1) where the second has no more LEFT");
    due(x.reach(2), 13, "reach(2)");
    due(Told.of("river wide 9 long 1;stone at 0 8 bears 1;").reach(7), 0, "reach(7) of what lies too far");
    due(Told.of("river wide 9 long 1;").reach(9), 0, "reach without STONES");
  }

  private static void hour() {
    promise = 10;
    BearsTwo x = Told.of(COLUMN);
    due(x.hour(23), 0, "hour(23)");
    due(x.hour(5), 23, "hour(5)");
    due(x.hour(24), -2, "hour(24)");
    due(x.hour(-1), -2, "hour(-1)");
    due(x.count(4), 5, "count(4)");
    due(x.hour(0), 5, "hour(0)");
  }

  private static void fresh() {
    promise = 11;
    BearsTwo x = Told.of(FAMILY);
    due(x.fresh(), 0, "fresh");
    x.step(2, 0);
    x.step(1, 3);
    due(x.stone(0, 2), 0, "LEFT");
    due(x.fresh(), 3, "fresh");
    due(x.stone(0, 2), 2, "LEFT");
    due(x.fresh(), 0, "fresh again");
    due(x.person(2, 0), 0, "who stands stays");
  }

  // ---- 12 to 17: WAYS and STEPS

  private static void rowIs(BearsTwo x, int stride, int weight, int way, int... row) {
    due(x.length(stride, weight, way), row.length, "length(" + stride + ", " + weight + ", " + way + ")");
    for (int i = 0; i < row.length; i++)
      due(x.path(stride, weight, way, i), row[i], "path(" + stride + ", " + weight + ", " + way + ", " + i + ")");
    due(x.path(stride, weight, way, row.length), -1, "path behind the last");
    due(x.path(stride, weight, way, -1), -1, "path(.., -1)");
  }

  private static void length() {
    promise = 12;
    BearsTwo x = Told.of(FAMILY);
    due(x.length(1, 1, 0), 3, "length(1, 1, 0)");
    due(x.length(1, 2, 0), -1, "length(1, 2, 0)");
    due(x.length(3, 1, 0), 1, "length(3, 1, 0)");
    due(x.length(4, 6, 3), 0, "length(4, 6, 3)");
    due(x.length(2, 6, 0), 1, "length(2, 6, 0)");
    int[][] wrongOnes = {{0, 1, 0}, {10, 1, 0}, {1, 0, 0}, {1, 7, 0}, {1, 1, 4}, {1, 1, -1}};
    for (int[] w : wrongOnes) due(x.length(w[0], w[1], w[2]), -2, "length of none such");
    x.hour(12);
    due(x.length(2, 4, 0), -1, "length(2, 4, 0) where none bears four");
  }

  private static void path() {
    promise = 13;
    BearsTwo x = Told.of(FAMILY);
    rowIs(x, 1, 1, 0, 0, 1, 2);
    rowIs(x, 2, 1, 0, 1);
    rowIs(x, 2, 1, 1, 1);
    rowIs(x, 2, 1, 2, 1);
    rowIs(x, 2, 1, 3, 4);
    rowIs(x, 2, 2, 0, 3);
    rowIs(x, 2, 2, 2, 3);
    rowIs(x, 4, 1, 2);
    int[][] wrongOnes = {{0, 1, 0}, {10, 1, 0}, {1, 0, 0}, {1, 7, 0}, {1, 1, 4}, {1, 1, -1}};
    for (int[] w : wrongOnes) due(x.path(w[0], w[1], w[2], 0), -2, "path of none such");
    due(x.path(1, 2, 0, 0), -1, "path where there is no WAY");
    minds();
    snake();
    // Of equal sums and counts the least row, from where one begins.
    BearsTwo tie = Told.of("river wide 3 long 4;stone at 3 2 bears 1;stone at 0 2 bears 1;stone at 0 1 bears 1;stone at 3 1 bears 1;");
    rowIs(tie, 1, 1, 0, 2, 1);
  }

  /** A row of all 24: up one, along 13, up 9, told from its end. */
  private static void snake() {
    StringBuilder text = new StringBuilder("river wide 12 long 20;");
    for (int y = 11; y >= 3; y--) text.append("stone at 13 ").append(y).append(" bears 2;");
    for (int x = 13; x >= 0; x--) text.append("stone at ").append(x).append(" 2 bears 2;");
    text.append("stone at 0 1 bears 2;person stride 1 weight 1 worth 1 back;");
    BearsTwo x = Told.of(text.toString());
    int[] row = new int[24];
    for (int i = 0; i < 24; i++) row[i] = 23 - i;
    for (int way = 0; way < 4; way++) rowIs(x, 1, 2, way, row);
    due(x.reach(1), (1 << 24) - 1, "reach(1)");
    due(x.most(1, 1), 2, "most(1, 1)");
    due(x.cut(1, 1), 1 << 23, "cut(1, 1)");
    due(x.bars(12, 1, 1), 2, "bars(12, 1, 1)");
    due(x.alike(1, 1, 1), 2, "alike(1, 1, 1)");
    due(x.home(2), 1, "home(2)");
    due(x.sure(1, 2), 1000000000L, "sure(1, 2)");
    due(x.go(0, 3), 24, "go(0, 3)");
    due(x.fresh(), 24, "fresh()");
  }

  /** What each of the four minds looks at. */
  private static void minds() {
    // By one STONE: 2, which has 5, or 4, which has 1; by two: 0 1, which have 2 each, or 3 5, which have 1 each.
    BearsTwo x = Told.of("river wide 4 long 9;stone at 0 1 bears 2;stone at 0 3 bears 2;stone at 4 2 bears 5;"
        + "stone at 8 1 bears 1;stone at 8 2 bears 1;stone at 8 3 bears 1;");
    rowIs(x, 2, 1, 0, 2);
    rowIs(x, 2, 1, 1, 2);
    rowIs(x, 2, 1, 2, 4);
    rowIs(x, 2, 1, 3, 2);
    // All is in reach of all four: one STONE costs 5, two cost 10.
    BearsTwo y = Told.of("river wide 4 long 9;stone at 4 1 bears 1;stone at 4 3 bears 1;stone at 0 2 bears 1;"
        + people(4, "person stride 2 weight 1 worth 0;"));
    rowIs(y, 2, 1, 1, 2);
    // 0 is in reach of three, 1 and 2 of nobody: 0 costs 4, the others 1.
    BearsTwo z = Told.of("river wide 3 long 9;stone at 0 1 bears 1;stone at 4 2 bears 1;stone at 5 2 bears 1;"
        + people(3, "person stride 1 weight 1 worth 0;"));
    rowIs(z, 2, 1, 0, 0);
    rowIs(z, 2, 1, 1, 1);
    BearsTwo lone = Told.of("river wide 3 long 9;stone at 0 1 bears 1;stone at 4 2 bears 1;person stride 1 weight 1 worth 0;");
    rowIs(lone, 2, 1, 1, 1);
    // 2 is in reach of two (3), 0 and 1 of nobody (2 together): two STONES are less than one.
    BearsTwo t = Told.of("river wide 6 long 9;stone at 0 2 bears 1;stone at 0 4 bears 1;stone at 8 3 bears 1;stone at 8 2 bears 1;stone at 8 1 bears 1;"
        + people(2, "person stride 1 weight 1 worth 0;"));
    rowIs(t, 3, 1, 0, 2);
    rowIs(t, 3, 1, 1, 0, 1);
    // Worn: two that have 1 each are as much as one that has 2: the fewer STONES.
    BearsTwo w = Told.of("river wide 4 long 9;stone at 0 1 bears 1;stone at 0 3 bears 1;stone at 4 2 bears 2;");
    rowIs(w, 2, 1, 2, 2);
    // Worn: two that have 1 each are less than one that has 3.
    BearsTwo v = Told.of("river wide 4 long 9;stone at 0 1 bears 1;stone at 0 3 bears 1;stone at 4 2 bears 3;");
    rowIs(v, 2, 1, 2, 0, 1);
    // Firm: two that have 9 each (1 and 1) are less than one that has 7 (3).
    BearsTwo u = Told.of("river wide 4 long 9;stone at 0 1 bears 9;stone at 0 3 bears 9;stone at 4 2 bears 7;");
    rowIs(u, 2, 1, 3, 0, 1);
    rowIs(u, 2, 1, 0, 2);
  }

  private static void step() {
    promise = 14;
    BearsTwo x = Told.of(FAMILY);
    due(x.step(0, 1), -5, "step too far");
    due(x.step(0, 98), -5, "step to where one is");
    due(x.step(0, 0), 1, "step(0, 0)");
    due(x.person(0, 0), 0, "PLACE");
    due(x.step(2, 0), -5, "a STONE that does not bear two any more");
    due(x.person(2, 0), 98, "PLACE");
    due(x.stone(0, 3), 1, "borne");
    due(x.step(0, 98), 0, "step back");
    due(x.step(0, 0), 0, "step(0, 0)");
    due(x.step(0, 1), 0, "step(0, 1)");
    due(x.step(0, 2), 1, "step(0, 2)");
    due(x.step(0, 99), 0, "step(0, 99)");
    due(x.person(0, 0), 99, "PLACE");
    due(x.step(1, 3), 2, "one of two alone");
    due(x.person(2, 0), 98, "the other one stays");
    due(x.step(3, 0), -2, "step(3, 0)");
    due(x.step(-1, 0), -2, "step(-1, 0)");
    due(x.step(0, 5), -2, "step(0, 5)");
    due(x.step(0, 97), -2, "step(0, 97)");
    due(x.step(0, 100), -2, "step(0, 100)");
    due(x.step(0, -1), -2, "step(0, -1)");
    x.hour(12);
    due(x.step(1, 4), -5, "a STONE that is under");
    BearsTwo y = Told.of("river wide 3 long 1;person stride 3 weight 3 worth 1;");
    due(y.step(0, 99), 0, "from bank to bank");
    due(y.step(0, 98), 0, "and back");
  }

  private static void write(BearsTwo x, int slot, int width, long... numbers) {
    x.row(slot, width, numbers.length);
    for (int i = 0; i < numbers.length; i++) due(x.write(slot, i, numbers[i]), 0, "write");
  }

  private static void judge() {
    promise = 15;
    BearsTwo x = Told.of(FAMILY);
    due(x.judge(0), -6, "judge of nothing");
    due(x.judge(4), -2, "judge(4)");
    due(x.judge(-1), -2, "judge(-1)");
    x.row(0, 0, 0);
    due(x.judge(0), 0, "judge of no numbers");
    write(x, 0, 0, 0, 0, 0, 1, 0, 2, 0, 99, 7);
    due(x.judge(0), 4, "judge of four STEPS and one number left over");
    due(x.person(0, 0), 98, "in thought");
    due(x.stone(0, 3), 0, "in thought");
    write(x, 0, 0, 0, 0, 0);
    due(x.judge(0), 1, "judge of one STEP and one number left over, which with a 0 behind it would be one");
    write(x, 0, 0, 0, 0, 0, 1, 0, 0, 0);
    due(x.judge(0), 3, "judge of three STEPS and one number left over");
    write(x, 0, 0, 2, 0, 0, 0, 0, 1);
    due(x.judge(0), 1, "judge where the second is not borne");
    write(x, 1, 3, 0, 0, 4294967296L, 1);
    due(x.judge(1), 1, "judge of a PERSON whose low half alone is one");
    write(x, 1, 3, 0, 0, 0, 4294967297L);
    due(x.judge(1), 1, "judge of a PLACE whose low half alone is one");
    write(x, 1, 2, 0, 0, 4294967296L, 1);
    due(x.judge(1), 2, "judge of numbers cut to four bytes");
    write(x, 2, 0, 3, 0);
    due(x.judge(2), 0, "judge of no such PERSON");
    write(x, 2, 0, 0, 5);
    due(x.judge(2), 0, "judge of no such PLACE");
    write(x, 2, 0, -1, 0);
    due(x.judge(2), 0, "judge of a PERSON below 0");
  }

  private static void ends() {
    promise = 16;
    BearsTwo x = Told.of(FAMILY);
    due(x.ends(0, 0), -6, "ends of nothing");
    due(x.ends(4, 0), -2, "ends(4, 0)");
    due(x.ends(0, 3), -2, "ends(0, 3)");
    write(x, 0, 1, 0, 0, 1, 3, 0, 1, 0, 98, 1, 99);
    due(x.judge(0), 3, "judge");
    due(x.ends(0, 0), 1, "ends(0, 0)");
    due(x.ends(0, 1), 3, "ends(0, 1): what is behind the first that can't be is not done");
    due(x.ends(0, 2), 98, "ends(0, 2)");
    due(x.ends(0, 3), -2, "ends(0, 3)");
    due(x.ends(0, -1), -2, "ends(0, -1)");
    due(x.person(0, 0), 98, "in thought");
  }

  private static void go() {
    promise = 17;
    BearsTwo x = Told.of(FAMILY);
    due(x.go(1, 0), -5, "two of weight 3");
    due(x.go(2, 0), -2, "go(2, 0): the greater of two is no UNIT");
    due(x.go(3, 0), -2, "go(3, 0)");
    due(x.go(-1, 0), -2, "go(-1, 0)");
    due(x.go(0, 4), -2, "go(0, 4)");
    due(x.go(0, 0), 3, "go(0, 0)");
    due(x.person(0, 0), 99, "PLACE");
    due(x.stone(1, 2), 0, "LEFT");
    due(x.go(0, 0), -5, "no WAY back");
    x.fresh();
    due(x.go(0, 0), 3, "back");
    due(x.person(0, 0), 98, "PLACE");
    x.fresh();
    x.step(0, 0);
    due(x.go(0, 0), -5, "one who stands on a STONE");
    BearsTwo y = Told.of("river wide 3 long 3;stone at 0 1 bears 3;stone at 0 2 bears 3;"
        + "person stride 1 weight 1 worth 1;person stride 9 weight 2 worth 1 hand 0;");
    due(y.go(0, 0), 2, "two go by the lesser stride");
    due(y.person(0, 0) + y.person(1, 0), 198, "both are there");
    due(y.stone(0, 3), 3, "both weights");
    y.fresh();
    y.step(0, 1);
    due(y.go(0, 0), -5, "two who are not on one bank");
    // Back by the least row from where one begins: 1 0 is less than 3 2 from there, as 0 1 is from here.
    BearsTwo z = Told.of("river wide 3 long 5;stone at 0 2 bears 1;stone at 4 2 bears 1;stone at 4 1 bears 1;stone at 0 1 bears 2;"
        + "person stride 1 weight 1 worth 1;");
    due(z.go(0, 0), 2, "over");
    due(z.stone(2, 3), 1, "by 2 and 1");
    due(z.go(0, 0), 2, "back");
    due(z.stone(0, 3) + z.stone(3, 3), 2, "by 0 and 3");
    BearsTwo bare = Told.of("river wide 2 long 1;person stride 2 weight 1 worth 1;");
    due(bare.go(0, 3), 0, "without STONES");
    due(bare.count(8), 1, "at 99");
  }

  // ---- 18 to 24: who gets over

  /** One stone bears three: the first two UNITS leave nothing for those of more worth. */
  private static final String QUEUE = "river wide 2 long 1;stone at 0 1 bears 3;"
      + "person stride 1 weight 1 worth 1;person stride 1 weight 1 worth 2 back;person stride 1 weight 2 worth 9 must;"
      + "person stride 1 weight 1 worth 4 must back;";

  private static void over() {
    promise = 18;
    BearsTwo x = Told.of(QUEUE);
    due(x.over(0, 0), 3, "PEOPLE");
    due(x.over(0, 1), 7, "worth");
    due(x.over(0, 2), 1 + 2 + 8, "PEOPLE as bits");
    due(x.over(0, 3), 4, "who must and are not");
    due(x.over(0, 4), -2, "over(0, 4)");
    due(x.over(0, -1), -2, "over(0, -1)");
    due(x.over(4, 0), -2, "over(4, 0)");
    due(x.over(-1, 0), -2, "over(-1, 0)");
    due(x.count(7), 4, "in thought");
    x.go(3, 0);
    due(x.over(0, 2), 3, "those who are over already are not OVER then");
    due(x.over(0, 3), 4, "but one who must and is there is not missed");
    x.step(2, 98);
    BearsTwo pair = Told.of("river wide 2 long 1;stone at 0 1 bears 9;person stride 1 weight 1 worth 1;"
        + "person stride 1 weight 1 worth 1 must hand 0;person stride 1 weight 1 worth 1;");
    due(pair.over(2, 2), 7, "both of two");
    pair.step(0, 0);
    due(pair.over(2, 2), 4, "one of whom is not at 98");
    due(pair.over(2, 3), 1, "the UNIT's number");
    pair.step(0, 99);
    due(pair.over(2, 3), 1, "one of whom is not at 99");
    pair.step(1, 0);
    pair.step(1, 99);
    due(pair.over(2, 3), 0, "both are at 99");
    due(Told.of("river wide 2 long 1;").over(0, 0), 0, "nobody");
    due(Told.of("river wide 2 long 1;person stride 2 weight 1 worth 1;").over(0, 0), 1, "one who needs no STONE");
  }

  private static void all() {
    promise = 19;
    BearsTwo x = Told.of(QUEUE);
    due(x.all(4), -2, "all(4)");
    due(x.all(-1), -2, "all(-1)");
    due(x.all(0), 3, "all(0)");
    due(x.count(7), 1, "at 98");
    due(x.count(8), 3, "at 99");
    due(x.person(2, 0), 98, "who was too heavy");
    due(x.stone(0, 2), 0, "LEFT");
    due(x.all(0), 0, "all(0) again");
    x.fresh();
    due(x.all(0), 1, "all(0) on clean STONES");
  }

  private static void orderIs(BearsTwo x, int way, int... want) {
    for (int what = 0; what < 8; what++)
      due(x.order(way, what), what < want.length ? want[what] : -1, "order(" + way + ", " + what + ")");
  }

  private static void order() {
    promise = 20;
    BearsTwo x = Told.of(QUEUE);
    // Both who must: 2 and 3, in whatever place the others stand ahead of them they take room: 2 3 first, but 0 2 3 leaves none for 3.
    orderIs(x, 0, 13, 2, 2, 3, 0, 1);
    due(x.order(0, 8), -2, "order(0, 8)");
    due(x.order(0, -1), -2, "order(0, -1)");
    due(x.order(4, 0), -2, "order(4, 0)");
    due(x.count(7), 4, "in thought");
    x.go(2, 0);
    // LEFT 1: one of 0, 1, 3; 3 must.
    orderIs(x, 0, 4, 1, 3, 0, 1);
    x.go(3, 0);
    orderIs(x, 0, 0, 0, 0, 1);
    x.fresh();
    orderIs(x, 0, 3, 0, 0, 1);
    BearsTwo crowd = Told.of("river wide 2 long 1;stone at 0 1 bears 9;" + people(7, "person stride 1 weight 1 worth 1;"));
    due(crowd.order(0, 0), -3, "seven UNITS");
    due(crowd.order(0, 8), -2, "seven UNITS and no such what");
    crowd.go(3, 0);
    orderIs(crowd, 0, 6, 0, 0, 1, 2, 4, 5, 6);
    BearsTwo pairs = Told.of("river wide 2 long 1;stone at 0 1 bears 9;" + people(6, "person stride 1 weight 1 worth 1;")
        + "person stride 1 weight 1 worth 1 hand 5;person stride 1 weight 1 worth 1 hand 0;");
    orderIs(pairs, 3, 8, 0, 0, 1, 2, 3, 4, 5);
    // One who must is more than any worth.
    BearsTwo must = Told.of("river wide 2 long 1;stone at 0 1 bears 1;person stride 1 weight 1 worth 99;"
        + "person stride 1 weight 1 worth 0 must;");
    orderIs(must, 0, 0, 1, 1, 0);
    // By WAY 0 the one who can go either way takes the only STONE of the other one, unless he is second.
    BearsTwo shy = Told.of("river wide 4 long 5;stone at 0 2 bears 1;stone at 4 2 bears 1;"
        + "person stride 2 weight 1 worth 1;person stride 2 weight 1 worth 2;person stride 2 weight 1 worth 3;");
    orderIs(shy, 0, 5, 0, 1, 2, 0);
    orderIs(Told.of("river wide 2 long 1;"), 0, 0, 0);
    // Of equal worth, but not of equal weight, stride or must: who is lighter goes ahead.
    String two = "river wide 2 long 1;stone at 0 1 bears 2;";
    orderIs(Told.of(two + "person stride 1 weight 2 worth 5;" + people(2, "person stride 1 weight 1 worth 5;")), 0, 10, 0, 1, 0, 2);
    orderIs(Told.of(two + people(2, "person stride 1 weight 1 worth 5;") + "person stride 1 weight 1 worth 5 must;"), 0, 10, 1, 0, 2, 1);
    // By 0 goes who can't go by 1, if he goes first.
    orderIs(Told.of("river wide 3 long 9;stone at 0 2 bears 1;stone at 0 1 bears 1;stone at 7 1 bears 1;"
        + "person stride 2 weight 1 worth 5;person stride 1 weight 1 worth 5;"), 0, 10, 0, 1, 0);
    // What was found is not held when something has changed.
    BearsTwo held = Told.of("river wide 2 long 1;stone at 0 1 bears 2 sinks 9 doubt 50;" + people(3, "person stride 1 weight 1 worth 5;"));
    due(held.order(0, 0), 10, "worth at first");
    held.know(0, true);
    due(held.order(0, 0), 5, "worth when one is known");
    held.step(2, 0);
    due(held.order(0, 0), 0, "worth behind a step");
    held.fresh();
    due(held.order(0, 0), 5, "worth on clean STONES");
    held.hour(9);
    due(held.order(0, 0), 0, "worth when it is under");
    held.hour(0);
    held.go(1, 0);
    due(held.order(0, 0), 0, "worth when one has gone");
    held.fresh();
    held.image(0);
    held.all(0);
    due(held.order(0, 2), -1, "nobody is there");
    held.back(0);
    due(held.order(0, 2), 0, "one is there again");
    // One who can go without STONES takes nothing.
    orderIs(Told.of("river wide 2 long 1;stone at 0 1 bears 1;person stride 2 weight 3 worth 5;person stride 1 weight 1 worth 5;"), 1, 10, 0, 0, 1);
  }

  private static void gap() {
    promise = 21;
    BearsTwo x = Told.of(QUEUE);
    due(x.gap(0), 13 - 7, "gap(0)");
    due(x.gap(4), -1000000, "gap(4)");
    due(x.gap(-1), -1000000, "gap(-1)");
    BearsTwo must = Told.of("river wide 2 long 1;stone at 0 1 bears 1;person stride 1 weight 1 worth 99;"
        + "person stride 1 weight 1 worth 0 must;");
    due(must.gap(0), -99, "one who must costs worth");
    BearsTwo crowd = Told.of("river wide 2 long 1;stone at 0 1 bears 9;" + people(7, "person stride 1 weight 1 worth 1;"));
    due(crowd.gap(0), -1000000, "seven UNITS");
  }

  private static void home() {
    promise = 22;
    // Three bears: 0, 1 and 3 are over and nothing is left.
    due(Told.of(QUEUE).home(0), 0, "home(0) where nothing is left");
    BearsTwo x = Told.of(QUEUE.replace("bears 3", "bears 5"));
    // Five: 0, 1, 2 and 3 are over (1 + 1 + 2 + 1); none is left.
    due(x.home(0), 0, "home(0) where all are over");
    BearsTwo y = Told.of(QUEUE.replace("bears 3", "bears 7"));
    due(y.home(0), 2, "home(0)");
    due(y.count(7), 4, "in thought");
    due(y.home(4), -2, "home(4)");
    due(y.home(-1), -2, "home(-1)");
    BearsTwo z = Told.of(QUEUE.replace("bears 3", "bears 6"));
    due(z.home(0), 1, "one who is to come back, in order");
    z.go(1, 0);
    z.fresh();
    // 1 is at 99 already: 0, 2, 3 go over (4), then 1 and 3 come back (2).
    due(z.home(0), 2, "one who was at 99 already");
    BearsTwo pair = Told.of("river wide 2 long 1;stone at 0 1 bears 9;person stride 1 weight 1 worth 1;"
        + "person stride 1 weight 1 worth 1 back hand 0;");
    due(pair.home(1), 2, "two, one of whom is to come back");
  }

  private static void days() {
    promise = 23;
    BearsTwo x = Told.of(QUEUE);
    due(x.days(0), 2, "days(0)");
    due(x.days(4), -2, "days(4)");
    due(x.days(-1), -2, "days(-1)");
    x.go(0, 0);
    due(x.days(0), 2, "the first day is a clean one: 1 and 2");
    x.all(0);
    x.fresh();
    x.all(0);
    due(x.days(0), 0, "nobody is at 98");
    due(Told.of("river wide 2 long 1;").days(0), 0, "nobody at all");
    due(Told.of("river wide 2 long 1;stone at 0 1 bears 1;person stride 1 weight 2 worth 0;").days(0), -1, "one too heavy");
    due(Told.of("river wide 2 long 1;stone at 0 1 bears 1;" + people(8, "person stride 1 weight 1 worth 0;")).days(0), 8, "one by one");
    BearsTwo half = Told.of("river wide 2 long 1;stone at 0 1 bears 4;person stride 1 weight 1 worth 0;person stride 1 weight 1 worth 0 hand 0;");
    half.step(1, 0);
    due(half.days(0), -1, "one of two alone at 98");
    BearsTwo sunk = Told.of("river wide 2 long 1;stone at 0 1 bears 4 sinks 7;person stride 1 weight 1 worth 0;");
    due(sunk.days(2), 1, "days at HOUR 0");
    sunk.hour(7);
    due(sunk.days(2), -1, "days at HOUR 7");
  }

  private static void best() {
    promise = 24;
    due(Told.of(QUEUE).best(), 0, "all alike");
    // 0 goes by 0 (the least row) or, firm, by 1; weight 2 then needs STONE 0 (which bears 2).
    BearsTwo x = Told.of("river wide 2 long 9;stone at 0 1 bears 2;stone at 5 1 bears 1;"
        + "person stride 1 weight 1 worth 1;person stride 1 weight 2 worth 5;");
    due(x.over(0, 1), 1, "WAY 0");
    due(x.over(1, 1), 1, "WAY 1");
    due(x.over(2, 1), 6, "WAY 2");
    due(x.over(3, 1), 1, "WAY 3");
    due(x.best(), 2, "worn");
    due(Told.of("river wide 2 long 9;").best(), 0, "nobody");
  }

  // ---- 25 to 34: how many at once

  private static void most() {
    promise = 25;
    BearsTwo x = Told.of(FAMILY);
    due(x.most(1, 1), 1, "most(1, 1)");
    due(x.most(2, 1), 15, "most(2, 1)");
    due(x.most(2, 2), 6, "most(2, 2)");
    due(x.most(2, 6), 1, "most(2, 6)");
    due(x.most(1, 2), 0, "most(1, 2)");
    due(x.most(4, 1), 999, "most(4, 1)");
    due(x.most(3, 1), 2 + 1 + 2 + 3 + 9, "most(3, 1): each by one STONE");
    int[][] wrongOnes = {{0, 1}, {10, 1}, {1, 0}, {1, 7}};
    for (int[] w : wrongOnes) due(x.most(w[0], w[1]), -2, "most of none such");
    x.hour(12);
    due(x.most(2, 1), 6, "most(2, 1) at 12");
    // A row that is taken first must give way: 98 0 3 99 bars 98 1 3 .. and 0 2.
    BearsTwo y = Told.of("river wide 3 long 2;stone at 0 1 bears 1;stone at 1 1 bears 1;stone at 0 2 bears 1;stone at 1 2 bears 1;");
    due(y.most(1, 1), 2, "two columns");
    due(y.most(2, 1), 4, "one each");
    BearsTwo zig = Told.of("river wide 4 long 4;stone at 1 1 bears 1;stone at 1 2 bears 1;stone at 1 3 bears 1;"
        + "stone at 0 1 bears 1;stone at 0 2 bears 1;stone at 2 2 bears 1;stone at 2 3 bears 1;");
    due(zig.most(1, 1), 1, "the left column has no end, the right one no beginning");
    due(Told.of("river wide 9 long 1;").most(8, 1), 0, "no STONES");
  }

  private static void cut() {
    promise = 26;
    BearsTwo x = Told.of(FAMILY);
    due(x.cut(1, 1), 2, "cut(1, 1)");
    due(x.cut(2, 1), 27, "cut(2, 1)");
    due(x.cut(4, 1), 0, "cut(4, 1) of 999");
    int[][] wrongOnes = {{0, 1}, {10, 1}, {1, 0}, {1, 7}};
    for (int[] w : wrongOnes) due(x.cut(w[0], w[1]), -2, "cut of none such");
    BearsTwo y = Told.of("river wide 4 long 1;stone at 0 1 bears 2;stone at 0 2 bears 2;stone at 0 3 bears 2;");
    due(y.cut(1, 1), 1, "of several those nearest this bank");
    BearsTwo z = Told.of("river wide 4 long 1;stone at 0 1 bears 3;stone at 0 2 bears 3;stone at 0 3 bears 2;");
    due(z.cut(1, 1), 4, "the last bears least");
    due(z.cut(1, 3), 4, "one that bears none of that weight");
    due(Told.of("river wide 4 long 1;").cut(1, 1), 0, "no STONES");
    due(Told.of("river wide 4 long 1;stone at 0 2 bears 1;").cut(1, 1), 0, "none to which one comes");
  }

  private static void bars() {
    promise = 27;
    BearsTwo x = Told.of(FAMILY);
    int[] byOne = {1, 1, 1, 0, 0};
    int[] byTwo = {2, 1, 2, 3, 9};
    for (int s = 0; s < 5; s++) {
      due(x.bars(s, 1, 1), byOne[s], "bars(" + s + ", 1, 1)");
      due(x.bars(s, 2, 1), byTwo[s], "bars(" + s + ", 2, 1)");
      due(x.bars(s, 4, 1), 0, "bars(" + s + ", 4, 1)");
    }
    due(x.bars(4, 2, 2), 4, "bars(4, 2, 2)");
    due(x.bars(5, 1, 1), -2, "bars(5, 1, 1)");
    due(x.bars(-1, 1, 1), -2, "bars(-1, 1, 1)");
    int[][] wrongOnes = {{0, 1}, {10, 1}, {1, 0}, {1, 7}};
    for (int[] w : wrongOnes) due(x.bars(0, w[0], w[1]), -2, "bars of none such");
  }

  private static void alike() {
    promise = 28;
    BearsTwo x = Told.of(FAMILY);
    due(x.alike(1, 1, 0), 1, "alike(1, 1, 0)");
    due(x.alike(2, 1, 0), 15, "alike(2, 1, 0)");
    due(x.alike(2, 2, 3), 6, "alike(2, 2, 3)");
    due(x.alike(4, 6, 1), 999, "alike(4, 6, 1)");
    due(x.stone(4, 3), 0, "in thought");
    int[][] wrongOnes = {{0, 1, 0}, {10, 1, 0}, {1, 0, 0}, {1, 7, 0}, {1, 1, 4}, {1, 1, -1}};
    for (int[] w : wrongOnes) due(x.alike(w[0], w[1], w[2]), -2, "alike of none such");
    // The shortest row, 0 1 2, takes a STONE of each of the two long ones, 0 3 4 5 and 6 7 8 2.
    BearsTwo y = Told.of("river wide 8 long 8;stone at 5 2 bears 1;stone at 5 4 bears 1;stone at 5 6 bears 1;stone at 6 3 bears 1;"
        + "stone at 7 4 bears 1;stone at 7 6 bears 1;stone at 3 2 bears 1;stone at 3 4 bears 1;stone at 4 5 bears 1;");
    due(y.most(2, 1), 2, "two at once");
    due(y.alike(2, 1, 0), 1, "one by one");
    // Of 0 1 4 and 0 2 3 the first is the least row from here, and bars 5 6 7 4; the second would be from there.
    BearsTwo z = Told.of("river wide 11 long 9;stone at 5 3 bears 1;stone at 4 5 bears 1;stone at 7 5 bears 1;stone at 7 8 bears 1;"
        + "stone at 4 8 bears 1;stone at 0 3 bears 1;stone at 0 6 bears 1;stone at 2 7 bears 1;");
    due(z.most(3, 1), 2, "two at once");
    due(z.alike(3, 1, 0), 1, "one by one, from here");
  }

  private static void more() {
    promise = 29;
    BearsTwo x = Told.of(FAMILY);
    due(x.more(1, 1, 2, 1), 1, "more(1, 1, 2, 1)");
    due(x.more(1, 1, 3, 3), 17 + 3, "more(1, 1, 3, 3)");
    due(x.more(1, 1, 3, 4), 999, "more(1, 1, 3, 4)");
    due(x.more(0, 1, 3, 1), -5, "more(0, 1, 3, 1)");
    due(x.more(0, 1, 3, 9), -5, "more(0, 1, 3, 9)");
    int[][] wrongOnes = {{-1, 1, 1, 1}, {3, 1, 1, 1}, {1, 0, 1, 1}, {1, 4, 1, 1}, {1, 1, 0, 1}, {1, 1, 10, 1}, {1, 1, 1, 0}, {1, 1, 1, 10},
        {0, 1, 0, 1}};
    for (int[] w : wrongOnes) due(x.more(w[0], w[1], w[2], w[3]), -2, "more of none such");
    due(x.count(2), 5, "in thought");
    BearsTwo brook = Told.of("river wide 3 long 2;stone at 0 1 bears 4;stone at 1 2 bears 4;");
    due(brook.most(1, 1), 0, "two that do not meet");
    due(brook.more(0, 2, 3, 1), 3, "with one at 0 2");
    due(brook.more(1, 1, 9, 1), 4, "with one at 1 1");
    StringBuilder full = new StringBuilder("river wide 3 long 20;");
    for (int k = 0; k < 24; k++) full.append("stone at ").append(k % 20).append(' ').append(1 + k / 20).append(" bears 1;");
    due(Told.of(full.toString()).more(4, 2, 1, 1), 5, "a 25th STONE");
  }

  private static void where() {
    promise = 30;
    due(Told.of(FAMILY).where(3, 1), 101, "where none helps: the first that is free");
    due(Told.of(FAMILY).where(3, 9), 101, "where all is 999");
    BearsTwo brook = Told.of("river wide 3 long 2;stone at 0 1 bears 4;stone at 1 2 bears 4;");
    due(brook.where(3, 1), 101, "where(3, 1): 1 1, ahead of 0 2");
    due(brook.where(9, 2), 101, "where(9, 2)");
    BearsTwo third = Told.of("river wide 4 long 2;stone at 1 1 bears 4;stone at 1 3 bears 4;");
    due(third.where(1, 1), 201, "where(1, 1): between");
    due(third.where(0, 1), -2, "where(0, 1)");
    due(third.where(10, 1), -2, "where(10, 1)");
    due(third.where(1, 0), -2, "where(1, 0)");
    due(third.where(1, 10), -2, "where(1, 10)");
    due(Told.of(BROOK).where(1, 1), -1, "no room");
    due(Told.of(BROOK).where(1, 9), -1, "no room, 999");
    due(Told.of("river wide 2 long 1;").where(1, 1), 100, "an empty brook");
  }

  private static void moved() {
    promise = 31;
    BearsTwo x = Told.of(FAMILY);
    due(x.moved(1, 0, 1), 1, "moved(1, 0, 1)");
    int[] barred = {1, 2, 3, 4};
    for (int to : barred) due(x.moved(1, to, 1), -5, "moved(1, " + to + ", 1)");
    due(x.moved(4, 1, 1), -5, "beyond the end along");
    due(x.moved(0, 4, 1), -5, "onto this bank");
    due(x.moved(2, 3, 1), -5, "onto the far bank");
    due(x.moved(2, 3, 9), -5, "onto the far bank, stride 9");
    due(x.moved(0, 2, 1), -5, "before the beginning along");
    due(x.moved(0, 1, 1), 1, "moved(0, 1, 1): by 0 3 1 2 then");
    due(x.moved(2, 1, 1), 1, "moved(2, 1, 1): by 0 1 3 2 then");
    due(x.moved(0, 1, 9), 999, "moved(0, 1, 9)");
    int[][] wrongOnes = {{5, 0, 1}, {-1, 0, 1}, {0, 5, 1}, {0, -1, 1}, {0, 0, 0}, {0, 0, 10}};
    for (int[] w : wrongOnes) due(x.moved(w[0], w[1], w[2]), -2, "moved of none such");
    due(x.stone(0, 0), 0, "in thought");
    BearsTwo brook = Told.of("river wide 3 long 2;stone at 0 1 bears 4;stone at 1 2 bears 3;");
    due(brook.moved(0, 1, 1), 3, "moved(0, 1, 1)");
    due(brook.moved(1, 2, 1), 3, "moved(1, 2, 1)");
    due(brook.moved(0, 3, 1), 0, "moved(0, 3, 1)");
  }

  private static void move() {
    promise = 32;
    BearsTwo x = Told.of(FAMILY);
    due(x.move(1, 1), 0, "move(1, 1)");
    due(x.move(5, 1), -2, "move(5, 1)");
    due(x.move(-1, 1), -2, "move(-1, 1)");
    due(x.move(0, 0), -2, "move(0, 0)");
    due(x.move(0, 10), -2, "move(0, 10)");
    BearsTwo brook = Told.of("river wide 3 long 3;stone at 0 1 bears 4;stone at 1 2 bears 3;");
    due(brook.move(0, 1), 1, "move(0, 1)");
    due(brook.move(1, 1), 2, "move(1, 1)");
    due(brook.move(1, 3), 0, "move(1, 3)");
    due(Told.of("river wide 4 long 1;stone at 0 1 bears 4;").move(0, 2), 3, "Y more");
    due(Told.of("river wide 4 long 1;stone at 0 3 bears 4;").move(0, 2), 4, "Y less");
  }

  private static void plank() {
    promise = 33;
    BearsTwo x = Told.of(FAMILY);
    due(x.plank(0, 2, 1), 2, "plank(0, 2, 1)");
    due(x.plank(2, 0, 1), 2, "plank(2, 0, 1)");
    due(x.plank(98, 1, 1), 1, "plank(98, 1, 1)");
    due(x.plank(0, 4, 1), -5, "plank(0, 4, 1)");
    due(x.plank(98, 99, 1), -5, "plank(98, 99, 1)");
    due(x.plank(98, 2, 1), -5, "plank(98, 2, 1)");
    due(x.plank(0, 2, 4), 999, "plank(0, 2, 4)");
    int[][] wrongOnes = {{0, 0, 1}, {98, 98, 1}, {5, 0, 1}, {0, 5, 1}, {97, 0, 1}, {0, 100, 1}, {0, 1, 0}, {0, 1, 10}, {-1, 0, 1}};
    for (int[] w : wrongOnes) due(x.plank(w[0], w[1], w[2]), -2, "plank of none such");
    due(Told.of(COLUMN).plank(0, 1, 1), -5, "without a plank");
    BearsTwo lone = Told.of("river wide 5 long 1;stone at 0 2 bears 4;plank 3;");
    due(lone.plank(0, 99, 2), 4, "to the far bank");
    due(lone.plank(99, 0, 2), 4, "from the far bank");
    due(lone.plank(0, 98, 2), 0, "to this bank");
    due(lone.plank(0, 99, 1), 0, "one must come there");
    due(Told.of("river wide 5 long 1;plank 5;").plank(99, 98, 1), 999, "from bank to bank");
  }

  private static void planks() {
    promise = 34;
    due(Told.of(FAMILY).planks(1), 2, "planks(1): between 0 and 2");
    due(Told.of(FAMILY).planks(4), 1, "planks(4), where all is 999: the least number");
    due(Told.of(COLUMN).planks(1), -1, "without a plank");
    due(Told.of(FAMILY).planks(0), -2, "planks(0)");
    due(Told.of(FAMILY).planks(10), -2, "planks(10)");
    due(Told.of("river wide 5 long 1;plank 4;").planks(1), -1, "too short for the banks");
    due(Told.of("river wide 5 long 1;plank 5;").planks(1), 9899, "from bank to bank");
    due(Told.of("river wide 5 long 1;stone at 0 2 bears 4;plank 3;").planks(2), 99, "from 0 to the far bank");
    due(Told.of("river wide 5 long 1;stone at 0 3 bears 4;plank 3;").planks(2), 98, "from this bank to 0");
    due(Told.of("river wide 9 long 1;stone at 0 4 bears 4;plank 3;").planks(2), -1, "reaches nowhere");
  }

  // ---- 35 to 42: doubts, the doctor, the hour

  private static final String DOUBTS = "river wide 2 long 9;stone at 0 1 bears 2 doubt 30;stone at 4 1 bears 3 doubt 40;stone at 8 1 bears 1;";

  private static void know() {
    promise = 35;
    BearsTwo x = Told.of(DOUBTS);
    due(x.count(9), 3, "in doubt");
    due(x.know(0, true), 0, "know(0, true)");
    due(x.know(0, true), -5, "known");
    due(x.know(0, false), -5, "known");
    due(x.stone(0, 2), 1, "LEFT");
    due(x.stone(0, 4), 1, "known to bear one");
    due(x.know(1, false), 0, "know(1, false)");
    due(x.stone(1, 2), 3, "LEFT");
    due(x.stone(1, 4), 0, "known to bear as told");
    due(x.know(2, true), -5, "not in doubt");
    due(x.know(3, true), -2, "know(3, true)");
    due(x.know(-1, true), -2, "know(-1, true)");
    due(x.count(9), 0, "no more in doubt");
  }

  private static void sure() {
    promise = 36;
    BearsTwo x = Told.of(DOUBTS);
    due(x.sure(1, 1), 1000000000L, "sure(1, 1)");
    due(x.sure(1, 2), 700000000L, "sure(1, 2)");
    due(x.sure(1, 3), 600000000L, "sure(1, 3)");
    due(x.sure(1, 4), 0, "sure(1, 4)");
    due(x.sure(2, 6), 1000000000L, "sure(2, 6)");
    int[][] wrongOnes = {{0, 1}, {10, 1}, {1, 0}, {1, 7}};
    for (int[] w : wrongOnes) due(x.sure(w[0], w[1]), -2, "sure of none such");
    x.know(1, false);
    due(x.sure(1, 2), 1000000000L, "sure(1, 2) where one is known");
    BearsTwo four = Told.of("river wide 5 long 1;stone at 0 1 bears 2 doubt 1;stone at 0 2 bears 2 doubt 99;"
        + "stone at 0 3 bears 2 doubt 33;stone at 0 4 bears 2 doubt 50;");
    due(four.sure(1, 2), 10L * 99 * 1 * 67 * 50, "a row of four");
    due(four.sure(1, 1), 1000000000L, "one of weight 1 is borne by all");
    BearsTwo worn = Told.of("river wide 2 long 1;stone at 0 1 bears 3 doubt 30;person stride 1 weight 1 worth 0;");
    worn.step(0, 0);
    due(worn.sure(1, 1), 700000000L, "steps borne and weight are two");
    due(worn.sure(1, 3), 0, "LEFT is two");
  }

  private static void tread() {
    promise = 37;
    BearsTwo x = Told.of(DOUBTS);
    // .. if 0 bears one: 0.6, else 1: 30 * 0.6 + 70 * 1 = 88; less 70.
    due(x.tread(0, 1, 2), 180000000L, "tread(0, 1, 2)");
    due(x.tread(1, 1, 2), 180000000L, "tread(1, 1, 2)");
    due(x.tread(2, 1, 2), 0, "tread(2, 1, 2)");
    due(x.tread(0, 1, 1), 0, "tread(0, 1, 1)");
    due(x.tread(1, 1, 3), 0, "tread(1, 1, 3): there is no other way");
    due(x.tread(3, 1, 1), -2, "tread(3, 1, 1)");
    due(x.tread(-1, 1, 1), -2, "tread(-1, 1, 1)");
    int[][] wrongOnes = {{0, 1}, {10, 1}, {1, 0}, {1, 7}};
    for (int[] w : wrongOnes) due(x.tread(0, w[0], w[1]), -2, "tread of none such");
    due(x.stone(0, 4), -1, "in thought");
    x.know(0, true);
    due(x.tread(0, 1, 2), 0, "tread of one that is known");
  }

  private static void first() {
    promise = 38;
    BearsTwo x = Told.of(DOUBTS);
    due(x.first(1, 2), 0, "the first of two alike");
    due(x.first(1, 1), -1, "first(1, 1)");
    due(x.first(1, 3), -1, "first(1, 3)");
    int[][] wrongOnes = {{0, 1}, {10, 1}, {1, 0}, {1, 7}};
    for (int[] w : wrongOnes) due(x.first(w[0], w[1]), -2, "first of none such");
    // 0 : 40 * 0.9 + 60 less 90 is 6; 1 : 30 * 0.9 + 70 less 90 is 7; 2 : 10 * 0.7 + 90 less 90 is 7.
    BearsTwo y = Told.of("river wide 2 long 9;stone at 0 1 bears 2 doubt 40;stone at 4 1 bears 2 doubt 30;stone at 8 1 bears 2 doubt 10;");
    due(y.tread(0, 1, 2), 60000000L, "tread(0, 1, 2)");
    due(y.tread(1, 1, 2), 70000000L, "tread(1, 1, 2)");
    due(y.tread(2, 1, 2), 70000000L, "tread(2, 1, 2)");
    due(y.first(1, 2), 1, "first(1, 2)");
  }

  private static void price() {
    promise = 39;
    BearsTwo x = Told.of(FAMILY);
    due(x.price(2, 1, 0), 2, "price(2, 1, 0): 0, 1 and 2 bear one less each: 15 and 13");
    due(x.price(2, 2, 0), 1, "price(2, 2, 0)");
    due(x.price(1, 2, 0), 1, "price(1, 2, 0): the way by 1");
    due(x.price(1, 2, 3), 0, "price(1, 2, 3): the way by 4");
    due(x.price(4, 1, 0), 0, "price(4, 1, 0) of 999");
    // The doctor goes by the least row from 98, 0 5, which others can't go by; from 99 the least would be 3 2.
    BearsTwo tie = Told.of("river wide 5 long 9;stone at 8 2 bears 1;stone at 0 1 bears 1;stone at 0 2 bears 1;stone at 0 3 bears 1;"
        + "stone at 0 4 bears 1;stone at 8 3 bears 1;");
    due(tie.most(1, 1), 1, "one by the column");
    due(tie.price(1, 2, 0), 0, "price by 0 5");
    due(tie.price(1, 1, 0), 1, "price by the column");
    due(x.price(1, 4, 0), 0, "price(1, 4, 0): no STONE is kept");
    int[][] wrongOnes = {{0, 1, 0}, {10, 1, 0}, {1, 0, 0}, {1, 10, 0}, {1, 1, 4}, {1, 1, -1}};
    for (int[] w : wrongOnes) due(x.price(w[0], w[1], w[2]), -2, "price of none such");
    due(x.stone(1, 3), 0, "in thought");
    x.step(1, 1);
    due(x.price(1, 1, 0), -1, "no such way");
  }

  private static void keep() {
    promise = 40;
    BearsTwo x = Told.of(FAMILY);
    due(x.keep(1, 2), 3, "keep(1, 2)");
    due(x.keep(2, 2), 0, "keep(2, 2)");
    due(x.keep(0, 1), -2, "keep(0, 1)");
    due(x.keep(10, 1), -2, "keep(10, 1)");
    due(x.keep(1, 0), -2, "keep(1, 0)");
    due(x.keep(1, 10), -2, "keep(1, 10)");
    x.step(1, 1);
    due(x.keep(2, 1), -1, "no such way");
  }

  private static void late() {
    promise = 41;
    BearsTwo x = Told.of(FAMILY);
    due(x.late(2, 11), 15, "late(2, 11)");
    due(x.late(2, 12), 6, "late(2, 12)");
    due(x.late(2, 23), 6, "late(2, 23)");
    due(x.late(4, 23), 999, "late(4, 23)");
    due(x.count(4), 0, "in thought");
    x.hour(20);
    due(x.late(2, 0), 15, "late(2, 0)");
    int[][] wrongOnes = {{0, 1}, {10, 1}, {1, -1}, {1, 24}};
    for (int[] w : wrongOnes) due(x.late(w[0], w[1]), -2, "late of none such");
  }

  private static void noon() {
    promise = 42;
    BearsTwo x = Told.of(FAMILY);
    due(x.noon(2, 7), 11, "noon(2, 7)");
    due(x.noon(2, 15), 11, "noon(2, 15)");
    due(x.noon(2, 6), 23, "noon(2, 6)");
    due(x.noon(2, 0), 23, "noon(2, 0)");
    due(x.noon(2, 16), -1, "noon(2, 16)");
    due(x.noon(4, 999), 23, "noon(4, 999)");
    int[][] wrongOnes = {{0, 1}, {10, 1}, {1, -1}, {1, 1000}};
    for (int[] w : wrongOnes) due(x.noon(w[0], w[1]), -2, "noon of none such");
    due(Told.of("river wide 2 long 1;stone at 0 1 bears 1 sinks 1;").noon(1, 1), 0, "HOUR 0 alone");
  }

  // ---- 43 to 52: rows, days drawn, counts, images

  private static void waits() {
    promise = 43;
    BearsTwo x = Told.of(FAMILY);
    due(x.waits(0, 1), -6, "waits of nothing");
    due(x.waits(4, 0), -2, "waits(4, 0)");
    due(x.waits(0, -1), -2, "waits(0, -1)");
    write(x, 0, 0, 0, 1, 2);
    due(x.waits(0, 1), -6, "the other one has nothing");
    due(x.waits(1, 0), -6, "the first has nothing");
    write(x, 1, 3, 2, 1, 0);
    due(x.waits(0, 0), 1, "the same row");
    // 0 1 2 and 2 1 0: they meet on 1; by 1: 1 2 and 2 1; by 2: 2 and 2.
    due(x.waits(0, 1), 1, "waits(0, 1)");
    write(x, 1, 2, 1, 2, 0);
    // by 0: 0 1 2 and 1 2 0: none.
    due(x.waits(0, 1), 0, "waits(0, 1)");
    // by 0: 1 2 0 and 0 1 2: none.
    due(x.waits(1, 0), 0, "waits(1, 0)");
    write(x, 1, 2, 0, 2, 0);
    due(x.waits(0, 1), 2, "by 0 they meet on 0, by 1 on 2");
    write(x, 1, 2, 3, 1, 2);
    due(x.waits(1, 0), 1, "by 0 they meet on 1 and 2");
    write(x, 2, 0, new long[60]);
    write(x, 3, 0, new long[60]);
    due(x.waits(2, 3), 60, "sixty minutes on one STONE");
    write(x, 3, 0, 0);
    due(x.waits(3, 2), 1, "the one is gone");
    due(x.waits(2, 3), 60, "the one is there for an hour");
    x.row(3, 0, 0);
    due(x.waits(3, 2), 0, "nobody");
    write(x, 3, 0, 5);
    due(x.waits(0, 3), -2, "no STONE");
    due(x.waits(3, 0), -2, "no STONE");
    write(x, 3, 0, -1);
    due(x.waits(0, 3), -2, "no STONE");
    write(x, 3, 3, 4294967296L);
    due(x.waits(0, 3), -2, "no STONE");
    BearsTwo y = new BearsTwo();
    y.row(0, 0, 0);
    y.row(1, 0, 0);
    due(y.waits(0, 1), 0, "no numbers, no RIVER");
    write(y, 1, 0, 99);
    due(y.waits(1, 2), -6, "whether it is a STONE is asked last");
  }

  private static void cross() {
    promise = 44;
    BearsTwo x = Told.of(FAMILY);
    due(x.cross(0, 1), -6, "cross of nothing");
    due(x.cross(4, 0), -2, "cross(4, 0)");
    due(x.cross(0, 4), -2, "cross(0, 4)");
    write(x, 0, 0, 0, 1, 2, 1);
    write(x, 1, 3, 1, 1, 4, 2, 2);
    due(x.cross(0, 1), 2, "cross(0, 1)");
    due(x.cross(1, 0), 2, "cross(1, 0)");
    due(x.cross(0, 0), 3, "cross(0, 0)");
    x.row(2, 0, 0);
    due(x.cross(0, 2), 0, "cross(0, 2)");
    write(x, 2, 0, 98);
    due(x.cross(0, 2), -2, "no STONE");
    due(x.cross(2, 3), -6, "asked last");
  }

  /** Of seeds 0, 1, 2, 3 the first draws are 0, 38, 8, 47; of seed 1 the next ones are 58, 13, 15. */
  private static final String DRAWN = "river wide 2 long 1;stone at 0 1 bears 3 doubt 40;"
      + "person stride 1 weight 1 worth 1;person stride 1 weight 1 worth 1 must;person stride 1 weight 1 worth 1;";

  private static void run() {
    promise = 45;
    BearsTwo x = Told.of(DRAWN);
    int[] want = {1, 1, 1, 3};
    for (int seed = 0; seed < 4; seed++) due(x.run(seed, 0), want[seed], "run(" + seed + ", 0)");
    due(x.run(-1, 0), -2, "run(-1, 0)");
    due(x.run(2000000001, 0), -2, "run(2000000001, 0)");
    due(x.run(2000000000, 0) < 0 ? 0 : 1, 1, "run(2000000000, 0) is a day");
    due(x.run(0, 4), -2, "run(0, 4)");
    due(x.run(0, -1), -2, "run(0, -1)");
    due(x.count(7), 3, "all stays");
    due(x.stone(0, 3), 0, "all stays");
    x.know(0, false);
    due(x.run(0, 0), 3, "nothing to draw");
    String one = "river wide 2 long 1;stone at 0 1 bears 2 doubt 38;" + people(2, "person stride 1 weight 1 worth 1;");
    due(Told.of(one).run(1, 0), 2, "a draw of 38 is not below 38");
    due(Told.of(one.replace("38", "39")).run(1, 0), 1, "but below 39");
    // 38 and 58: the first bears one, the second as told; then (known) 38 for the second.
    String two = "river wide 2 long 5;stone at 0 1 bears 2 doubt 40;stone at 4 1 bears 2 doubt 40;"
        + people(4, "person stride 1 weight 1 worth 1;");
    BearsTwo y = Told.of(two);
    due(y.run(1, 0), 3, "run(1, 0): the second goes in");
    y.know(0, false);
    due(y.run(1, 0), 3, "run(1, 0): the fourth goes in");
    // One goes in at the second of its row: the first has borne it.
    BearsTwo z = Told.of("river wide 3 long 1;stone at 0 1 bears 3;stone at 0 2 bears 3 doubt 99;"
        + "person stride 1 weight 1 worth 1;person stride 1 weight 2 worth 1;person stride 2 weight 1 worth 1;");
    // 0 gets over; 1 goes in at STONE 1 (by 0, which has borne 3 then and is of no use to anyone); 2 has no WAY.
    due(z.run(0, 0), 1, "what is ahead of it has borne it");
    due(Told.of("river wide 2 long 1;person stride 2 weight 1 worth 1;").run(0, 0), 1, "one who needs no STONE");
    // Weight 2 goes in at once.
    BearsTwo heavy = Told.of("river wide 2 long 1;stone at 0 1 bears 9 doubt 99;person stride 1 weight 2 worth 1;person stride 1 weight 1 worth 1;");
    due(heavy.run(0, 0), 0, "weight 2 is more than one; LEFT is 0 from then on");
  }

  private static void runs() {
    promise = 46;
    BearsTwo x = Told.of(DRAWN);
    due(x.runs(0, 4, 0, 0), 6, "PEOPLE together");
    due(x.runs(0, 4, 0, 1), 1, "the fewest");
    due(x.runs(0, 4, 0, 2), 1, "on how many all who must are");
    due(x.runs(3, 1, 0, 0), 3, "one day");
    due(x.runs(3, 1, 0, 1), 3, "the fewest of one day");
    int[][] wrongOnes = {{-1, 1, 0, 0}, {2000000001, 1, 0, 0}, {0, 0, 0, 0}, {0, 61, 0, 0}, {0, 1, 4, 0}, {0, 1, -1, 0}, {0, 1, 0, 3}, {0, 1, 0, -1}};
    for (int[] w : wrongOnes) due(x.runs(w[0], w[1], w[2], w[3]), -2, "runs of none such");
    int sum = 0;
    for (int day = 0; day < 60; day++) sum += x.run(1000 + day, 2);
    due(x.runs(1000, 60, 2, 0), sum, "sixty days are the days one by one");
    due(x.runs(2000000000, 60, 2, 0) > 0 ? 1 : 0, 1, "seeds beyond the last, come to from it");
    x.step(1, 0);
    x.step(1, 99);
    x.fresh();
    due(x.runs(0, 4, 0, 2), 4, "who is over already is not missed");
    due(Told.of("river wide 2 long 1;").runs(0, 60, 0, 2), 60, "nobody must");
  }

  private static void count() {
    promise = 47;
    BearsTwo x = Told.of(FAMILY);
    int[] want = {4, 3, 5, 3, 0, 10, 0, 3, 0, 8, 2, 0};
    for (int what = 0; what < want.length; what++) due(x.count(what), want[what], "count(" + what + ")");
    due(x.count(12), -1, "count(12)");
    due(x.count(-1), -1, "count(-1)");
    x.hour(7);
    x.step(0, 0);
    x.go(0, 0);
    x.row(2, 0, 0);
    x.row(3, 0, 5);
    x.feed(0, 0, 0, 0, 0);
    int[] later = {4, 3, 5, 3, 7, 10, 20, 2, 0, 8, 2, 2};
    for (int what = 0; what < later.length; what++) due(x.count(what), later[what], "count(" + what + ") later");
    due(Told.of(COLUMN).count(10), 0, "without a plank");
    BearsTwo y = Told.of(FAMILY);
    y.know(3, true);
    due(y.count(9), 0, "known");
    y.go(0, 0);
    due(y.count(8), 1, "at 99");
  }

  private static void image() {
    promise = 48;
    BearsTwo x = new BearsTwo();
    due(x.image(3), -2, "image(3)");
    due(x.image(-1), -2, "image(-1)");
    due(x.image(2), 0, "image(2) without a RIVER");
    due(x.back(2), 0, "back(2)");
    due(x.count(5), 0, "LINES");
    Told.feed(x, FAMILY);
    x.river();
    due(x.image(0), 0, "image(0)");
    due(x.person(0, 0), 98, "all stays");
    x.go(0, 0);
    due(x.image(0), 0, "image(0) in place of another");
    x.fresh();
    x.back(0);
    due(x.person(0, 0), 99, "the later one");
    due(x.stone(0, 3), 1, "the later one");
  }

  private static void back() {
    promise = 49;
    BearsTwo x = Told.of(FAMILY);
    due(x.back(0), -6, "back(0)");
    due(x.back(3), -2, "back(3)");
    due(x.back(-1), -2, "back(-1)");
    x.hour(5);
    x.step(1, 3);
    x.know(3, true);
    x.image(1);
    Told.feed(x, "x");
    x.river();
    Told.feed(x, "river wide 9 long 9;stone at 8 8 bears 9;");
    x.river();
    x.row(0, 0, 3);
    Told.feed(x, "tape");
    x.order(0, 0);
    due(x.back(1), 0, "back(1)");
    int[] want = {4, 3, 5, 3, 5, 10, 4, 2, 0, 0, 2, 1};
    for (int what = 0; what < want.length; what++) due(x.count(what), want[what], "count(" + what + ")");
    due(x.stone(3, 2), 0, "LEFT");
    due(x.stone(3, 3), 1, "borne");
    due(x.stone(3, 4), 1, "known");
    due(x.person(1, 0), 3, "PLACE");
    due(x.reach(1), 1 + 2 + 4, "the links are the image's");
    due(x.order(0, 0), 5, "the order is the image's");
    due(x.back(1), 0, "back(1) again");
    x.image(2);
    x.step(1, 1);
    x.back(2);
    due(x.person(1, 0), 3, "an image does not change with what is");
    due(x.person(2, 1), 1, "hands");
    due(x.back(0), -6, "back(0)");
  }

  private static void row() {
    promise = 50;
    BearsTwo x = Told.of(FAMILY);
    int[][] wrongOnes = {{-1, 0, 1}, {4, 0, 1}, {0, -1, 1}, {0, 4, 1}, {0, 0, 61}, {4, 0, -1}, {0, 4, -1}};
    for (int[] w : wrongOnes) due(x.row(w[0], w[1], w[2]), -2, "row of none such");
    due(x.row(0, 0, -1), -3, "row(0, 0, -1)");
    due(x.count(11), 0, "no row yet");
    due(x.row(0, 3, 60), 0, "row(0, 3, 60)");
    due(x.write(0, 59, 1), 0, "the last number");
    due(x.row(0, 0, -1), -3, "row(0, 0, -1)");
    due(x.write(0, 59, 1), 0, "the SLOT stays");
    write(x, 1, 0, 4, 4, 4);
    due(x.cross(1, 1), 1, "a STONE");
    x.row(1, 0, 3);
    write(x, 2, 0, 0);
    due(x.cross(1, 2), 1, "all 0");
    x.row(1, 0, 0);
    due(x.cross(1, 2), 0, "no numbers");
    due(x.judge(1), 0, "a row of no numbers is not nothing");
    due(x.row(1, 0, Integer.MIN_VALUE), -3, "row far below");
    due(x.row(1, 0, Integer.MAX_VALUE), -2, "row far above");
  }

  private static void writes() {
    promise = 51;
    BearsTwo x = Told.of(FAMILY);
    due(x.write(0, 0, 1), -6, "write to nothing");
    due(x.write(4, 0, 1), -2, "write(4, 0, 1)");
    due(x.write(-1, 0, 1), -2, "write(-1, 0, 1)");
    x.row(0, 0, 2);
    due(x.write(0, 2, 1), -7, "write(0, 2, 1)");
    due(x.write(0, -1, 1), -7, "write(0, -1, 1)");
    due(x.write(0, Integer.MAX_VALUE, 1), -7, "write far beyond");
    long[] cuts = {256L + 3, 65536L + 3, 4294967296L + 3};
    for (int width = 0; width < 4; width++)
      for (int k = 0; k < 3; k++) {
        x.row(1, width, 1);
        due(x.write(1, 0, cuts[k]), 0, "write");
        due(x.cross(1, 1), k >= width ? 1 : -2, "cut to WIDTH " + width + ": " + cuts[k]);
      }
    x.row(1, 0, 1);
    x.write(1, 0, -253);
    due(x.cross(1, 1), 1, "cut from below 0");
    x.row(1, 3, 1);
    x.write(1, 0, Long.MIN_VALUE);
    due(x.cross(1, 1), -2, "the least number");
  }

  private static void paste() {
    promise = 52;
    BearsTwo x = Told.of(FAMILY);
    due(x.paste(0, 0, 1, 0, 0), -6, "paste of nothing");
    due(x.paste(4, 0, 0, 0, 0), -2, "paste(4, ..)");
    due(x.paste(0, 0, 4, 0, 0), -2, "paste(.., 4, ..)");
    write(x, 0, 1, 0, 1, 2, 3, 4);
    due(x.paste(0, 0, 1, 0, 0), -6, "paste to nothing");
    due(x.paste(1, 0, 0, 0, 0), -6, "paste from nothing");
    x.row(1, 2, 5);
    due(x.paste(0, 0, 1, 0, 9), -8, "not of one WIDTH");
    x.row(1, 1, 2);
    int[][] beyond = {{0, 0, 3}, {4, 0, 2}, {5, 0, 1}, {0, 1, 2}, {-1, 0, 1}, {0, -1, 1}, {0, 0, -1}, {Integer.MAX_VALUE, 0, 1},
        {0, Integer.MAX_VALUE, 1}, {1, 1, Integer.MAX_VALUE}, {6, 0, 0}, {0, 3, 0}};
    for (int[] w : beyond) due(x.paste(0, w[0], 1, w[1], w[2]), -7, "paste beyond");
    due(x.paste(0, 5, 1, 2, 0), 0, "none, from the end to the end");
    due(x.paste(0, 3, 1, 0, 2), 0, "paste");
    write(x, 2, 0, 3);
    write(x, 3, 0, 4);
    due(x.cross(1, 2) + x.cross(1, 3) + x.cross(1, 1), 4, "3 and 4 were put");
    // Its own row, the pieces one over the other: 0 0 1 2 3, as they were.
    due(x.paste(0, 0, 0, 1, 4), 0, "its own row");
    due(x.cross(0, 3), 0, "4 is gone");
    due(x.cross(0, 0), 4, "0 1 2 3 are there");
    write(x, 2, 0, 9, 0, 1, 2, 3);
    x.write(2, 0, 4);
    // 4 0 1 2 3 behind 0 0 1 2 3: they meet if the places are the same.
    due(x.waits(0, 2), 1, "0 0 1 2 3");
    write(x, 0, 1, 0, 1, 2, 3, 4);
    due(x.paste(0, 1, 0, 0, 4), 0, "the other way round");
    due(x.cross(0, 0), 4, "1 2 3 4 are there");
  }

  public static void main(String[] args) {
    newObject(); feed(); end(); river(); fault(); stone(); person(); may(); reach(); hour(); fresh(); length(); path(); step();
    judge(); ends(); go(); over(); all(); order(); gap(); home(); days(); best(); most(); cut(); bars(); alike(); more(); where();
    moved(); move(); plank(); planks(); know(); sure(); tread(); first(); price(); keep(); late(); noon(); waits(); cross(); run();
    runs(); count(); image(); back(); row(); writes(); paste();
    System.out.println(wrong == 0 ? asked + " answers are as due" : wrong + " of " + asked + " answers are not as due");
    if (wrong != 0) System.exit(1);
  }
}
