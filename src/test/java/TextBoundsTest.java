import java.util.ArrayList;
import java.util.List;

/** The boundary cases of term I and of promises 1 to 5: the TAPE, the text, its FAULTS and their places. */
public final class TextBoundsTest {
  private static final Bounds B = new Bounds();

  private static String river(int wide, int len) { return "river wide " + wide + " long " + len + ";"; }

  private static final String STONE = "stone at 0 1 bears 1";
  private static final String PERSON = "person stride 1 weight 1 worth 1";

  /** A sound text: so many LINES. */
  private static void fine(String text, int lines) {
    BearsTwo x = new BearsTwo();
    Told.feed(x, text);
    B.due("river() of " + shown(text), x.river(), lines);
    B.due("fault(0) of " + shown(text), x.fault(0), 0);
    B.due("fault(1) of " + shown(text), x.fault(1), -1);
    B.due("count(5) of " + shown(text), x.count(5), lines);
    B.due("count(6) of " + shown(text), x.count(6), 0);
  }

  /** A text whose first FAULT is at the beginning of what stands behind. */
  private static void fault(String ahead, String behind, int kind) {
    String text = ahead + behind;
    BearsTwo x = Bounds.Rich.make();
    x.end(0);
    Told.feed(x, text);
    B.due("river() of " + shown(text), x.river(), -4);
    B.due("fault(0) of " + shown(text), x.fault(0), kind);
    B.due("fault(1) of " + shown(text), x.fault(1), ahead.length());
    B.same("a FAULT in " + shown(text), held(x), HELD);
  }

  /** All but the TAPE, which is empty behind any river(). */
  private static List<String> held(BearsTwo x) {
    List<String> all = new ArrayList<>();
    Bounds.Rich.state(x, all);
    Bounds.Rich.slots(x, all);
    for (int k = 0; k < 3; k++) {
      all.add("back(" + k + ") = " + x.back(k));
      Bounds.Rich.state(x, all);
    }
    return all;
  }

  private static final List<String> HELD = heldAtFirst();

  private static List<String> heldAtFirst() {
    BearsTwo x = Bounds.Rich.make();
    x.end(0);
    return held(x);
  }

  private static String shown(String text) {
    StringBuilder shown = new StringBuilder("'");
    for (char c : text.toCharArray()) shown.append(c >= 32 && c < 127 ? String.valueOf(c) : "<" + (int) c + ">");
    return shown.length() < 200 ? shown + "'" : shown.substring(0, 60) + " .. " + shown.substring(shown.length() - 60) + "'";
  }

  /** A number between two pieces of a text: its bounds are allowed, what is just beyond is FAULT 2 at it. */
  private static void number(String ahead, String behind, int low, int high) {
    int lines = (ahead + behind).replaceAll("[^;]", "").length();
    fine(ahead + low + behind, lines);
    fine(ahead + high + behind, lines);
    fine(ahead + "000000000000000000000" + high + behind, lines);
    if (low > 0) fault(ahead, low - 1 + behind, 2);
    fault(ahead, high + 1 + behind, 2);
    fault(ahead, 10 * high + 10 + behind, 2);
    // Numbers whose low 8, 16, 32 and 64 bits are within the bounds.
    fault(ahead, 256 + high + behind, 2);
    fault(ahead, 65536 + high + behind, 2);
    fault(ahead, (1L << 32) + high + behind, 2);
    fault(ahead, java.math.BigInteger.ONE.shiftLeft(64).add(java.math.BigInteger.valueOf(high)) + behind, 2);
    fault(ahead, "-" + high + behind, 1);
    fault(ahead, ";" + behind, 1);
    fault(ahead, "x" + behind, 1);
    fault(ahead + high, ".5" + behind, 1);
    fault(ahead, "", 1);
  }

  // ---- the TAPE

  private static void feed() {
    B.says("NONE, and none come, if it would have more than 1,600");
    BearsTwo x = new BearsTwo();
    for (int k = 1; k < 80; k++) B.due("feed " + k, x.feed(0, 0, 0, 0, 0), 20 * k);
    B.due("feed to 1,600", x.feed(0x20202020, 0x20202020, 0x20202020, 0x20202020, 0x20202020), 1600);
    B.due("feed at 1,600", x.feed(0, 0, 0, 0, 0), -1);
    B.due("count(6)", x.count(6), 1600);
    for (int has = 1581; has < 1600; has += 3) {
      BearsTwo y = full();
      y.end(has);
      B.due("feed at " + has, y.feed(0x23232323, 0x23232323, 0x23232323, 0x23232323, 0x23232323), -1);
      B.due("count(6) at " + has, y.count(6), has);
      B.due("river(): no byte came", y.river(), 1);
    }
    BearsTwo z = full();
    z.end(1580);
    B.due("feed at 1,580", z.feed(0x23232323, 0x23232323, 0x23232323, 0x23232323, 0x23232323), 1600);
    B.due("river(): the bytes came", z.river(), -4);
    B.due("fault(1)", z.fault(1), 1580);
    B.due("feed behind river()", z.feed(0, 0, 0, 0, 0), 20);
    B.says("four of each number, the highest first");
    BearsTwo bytes = new BearsTwo();
    bytes.feed(0x72697665, 0x72207769, 0x64652032, 0x206c6f6e, 0x6720313b);
    B.due("river()", bytes.river(), 1);
    BearsTwo high = new BearsTwo();
    high.feed(0x72697665, 0x72207769, 0x64652032, 0x206c6f6e, 0x67203180);
    B.due("river() of a last byte 128", high.river(), -4);
    B.due("fault(1)", high.fault(1), 19);
    BearsTwo first = new BearsTwo();
    first.feed(0xff697665, -1, Integer.MIN_VALUE, Integer.MAX_VALUE, 0);
    B.due("river() of a first byte 255", first.river(), -4);
    B.due("fault(1)", first.fault(1), 0);
  }

  /** A RIVER and blanks, 1,600 bytes. */
  private static BearsTwo full() {
    BearsTwo x = new BearsTwo();
    Told.feed(x, river(2, 1) + " ".repeat(1580));
    return x;
  }

  private static void end() {
    B.says("The TAPE has its first n bytes alone: n; NONE, and nothing happens, if it has not so many, or n is below 0");
    BearsTwo x = full();
    B.due("end(1601)", x.end(1601), -1);
    B.due("end(1600)", x.end(1600), 1600);
    B.due("end(1599)", x.end(1599), 1599);
    B.due("end(1600)", x.end(1600), -1);
    B.due("end(-1)", x.end(-1), -1);
    B.due("count(6)", x.count(6), 1599);
    B.due("end(20)", x.end(20), 20);
    B.due("river()", x.river(), 1);
    BearsTwo cut = full();
    cut.end(19);
    B.due("river() of its first 19", cut.river(), -4);
    B.due("fault(1)", cut.fault(1), 19);
    B.due("end(0) of an empty TAPE", new BearsTwo().end(0), 0);
    B.due("end(1) of an empty TAPE", new BearsTwo().end(1), -1);
    BearsTwo none = full();
    B.due("end(0)", none.end(0), 0);
    B.due("river() of no bytes", none.river(), 0);
    int[] beyond = {-1, 29, Integer.MAX_VALUE, Integer.MIN_VALUE};
    for (int n : beyond) B.stays("end(" + n + ")", y -> y.end(n), -1);
    B.stays("end(28)", y -> y.end(28), 28);
  }

  /** Where the TAPE is cut in the middle of a TOKEN, what was behind is not looked at. */
  private static void cutTokens() {
    B.says("The TAPE has its first n bytes alone: n");
    String[][] cuts = {{river(2, 1) + "plank 1", "2;", "1"}, {river(2, 1) + "plank ", "1;", "1"}, {river(2, 1) + "pla", "nk 1;", "1"}, {"river wide 1", "2 long 1;", "2"},
        {river(2, 1) + STONE + " doubt 9", "9;", "1"}, {"riv", "er wide 2 long 1;", "1"}, {river(2, 1), ";", "0"}, {river(2, 1), "#", "0"}, {"", "river", "0"}};
    int[] places = {27, 26, 20, 11, 48, 0, -1, -1, -1};
    for (int k = 0; k < cuts.length; k++) {
      BearsTwo x = new BearsTwo();
      Told.feed(x, cuts[k][0] + cuts[k][1]);
      B.due("end", x.end(cuts[k][0].length()), cuts[k][0].length());
      x.river();
      B.due("fault(0) of '" + cuts[k][0] + "'", x.fault(0), Integer.parseInt(cuts[k][2]));
      B.due("fault(1) of '" + cuts[k][0] + "'", x.fault(1), places[k]);
    }
    B.says("A TOKEN that ends where the longest TAPE does");
    fault(river(2, 1) + " ".repeat(1575), "plank", 1, 1600);
    fault(river(2, 1) + " ".repeat(1575), "plunk", 1, 1595);
    fault(river(2, 1) + " ".repeat(1573) + "plank ", "1", 1, 1600);
    fault(river(2, 1) + " ".repeat(1572) + "plank ", "10", 2, 1598);
    fine(river(2, 1) + " ".repeat(1572) + "plank 1;", 2);
  }

  private static void fault(String ahead, String behind, int kind, int place) {
    BearsTwo x = new BearsTwo();
    Told.feed(x, ahead + behind);
    B.due("river() of " + shown(ahead + behind), x.river(), -4);
    B.due("fault(0) of " + shown(ahead + behind), x.fault(0), kind);
    B.due("fault(1) of " + shown(ahead + behind), x.fault(1), place);
  }

  // ---- the text

  private static void lines() {
    B.says("RIVER: {LINE ;}");
    fine("", 0);
    fine(" ", 0);
    fine("\n\n ", 0);
    fine(river(2, 1), 1);
    fine(" \n" + river(2, 1) + "\n ", 1);
    fault("river wide 2 long 1", "", 1);
    fault("river wide 2 long 1 ", "", 1);
    fault("", ";", 1);
    fault(river(2, 1), ";", 1);
    fault(river(2, 1) + " \n", ";", 1);
    fault("river wide 2 long 1 ", "plank 1;", 1);
    fine(river(2, 1) + STONE + ";" + PERSON + ";plank 1;", 4);
    fault(river(2, 1) + STONE + ";" + PERSON + ";plank 1", "", 1);
    B.says("river is the first LINE and no other");
    fault(river(2, 1), "river wide 2 long 1;", 1);
    fault(river(2, 1) + "plank 1;", "river wide 2 long 1;", 1);
    fault("", STONE + ";" + river(2, 1), 1);
    fault("", PERSON + ";" + river(2, 1), 1);
    fault("", "plank 1;" + river(2, 1), 1);
    fault("", "wide 2 long 1;", 1);
    fault("", "7;", 1);
  }

  private static void numbers() {
    B.says("wide 2 .. 12, long 1 .. 20");
    number("river wide ", " long 1;", 2, 12);
    number("river wide 2 long ", ";", 1, 20);
    B.says("X 0 .. long less 1");
    number(river(2, 20) + "stone at ", " 1 bears 1;", 0, 19);
    number(river(2, 1) + "stone at ", " 1 bears 1;", 0, 0);
    B.says("Y 1 .. wide less 1");
    number(river(12, 1) + "stone at 0 ", " bears 1;", 1, 11);
    number(river(2, 1) + "stone at 0 ", " bears 1;", 1, 1);
    B.says("bears 1 .. 9, sinks 1 .. 23, doubt 1 .. 99");
    number(river(2, 1) + "stone at 0 1 bears ", ";", 1, 9);
    number(river(2, 1) + STONE + " sinks ", ";", 1, 23);
    number(river(2, 1) + STONE + " doubt ", ";", 1, 99);
    number(river(2, 1) + STONE + " sinks 5 doubt ", ";", 1, 99);
    number(river(2, 1) + STONE + " sinks ", " doubt 5;", 1, 23);
    B.says("stride 1 .. 9, weight 1 .. 3, worth 0 .. 99");
    number(river(2, 1) + "person stride ", " weight 1 worth 1;", 1, 9);
    number(river(2, 1) + "person stride 1 weight ", " worth 1;", 1, 3);
    number(river(2, 1) + "person stride 1 weight 1 worth ", ";", 0, 99);
    number(river(2, 1) + "person stride 1 weight 1 worth ", " must back;", 0, 99);
    B.says("P a PERSON told ahead");
    number(river(2, 1) + PERSON + ";" + PERSON + " hand ", ";", 0, 0);
    number(river(2, 1) + (PERSON + ";").repeat(7) + PERSON + " hand ", ";", 0, 6);
    fault(river(2, 1) + PERSON + " hand ", "0;", 2);
    B.says("plank 1 .. 9, once (0 without)");
    number(river(2, 1) + "plank ", ";", 1, 9);
    B.due("count(10) without", Told.of(river(2, 1)).count(10), 0);
    B.due("count(10)", Told.of(river(2, 1) + "plank 9;").count(10), 9);
  }

  /** What the bounds let in is what is held. */
  private static void held() {
    B.says("river wide N long N");
    for (int wide = 2; wide <= 12; wide++) B.due("count(0)", Told.of(river(wide, 1)).count(0), wide);
    for (int len = 1; len <= 20; len++) B.due("count(1)", Told.of(river(2, len)).count(1), len);
    B.says("stone at X Y");
    for (int x = 0; x < 20; x++) B.due("stone(0, 0)", Told.of(river(2, 20) + "stone at " + x + " 1 bears 1;").stone(0, 0), x);
    for (int y = 1; y < 12; y++) B.due("stone(0, 1)", Told.of(river(12, 1) + "stone at 0 " + y + " bears 1;").stone(0, 1), y);
    B.says("bears 1 .. 9");
    for (int n = 1; n < 10; n++) B.due("stone(0, 2)", Told.of(river(2, 1) + "stone at 0 1 bears " + n + ";").stone(0, 2), n);
    B.says("sinks 1 .. 23");
    for (int n = 1; n < 24; n++) {
      BearsTwo x = Told.of(river(2, 1) + STONE + " sinks " + n + ";");
      x.hour(n - 1);
      B.due("LEFT an HOUR ahead of " + n, x.stone(0, 2), 1);
      x.hour(n);
      B.due("LEFT at " + n, x.stone(0, 2), 0);
      x.hour(23);
      B.due("LEFT at 23 of one that sinks at " + n, x.stone(0, 2), 0);
    }
    B.says("doubt 1 .. 99");
    for (int n = 1; n < 100; n++)
      B.due("sure(1, 2) of doubt " + n, Told.of(river(2, 1) + "stone at 0 1 bears 2 doubt " + n + ";").sure(1, 2), 10000000L * (100 - n));
    B.says("worth 0 .. 99");
    B.due("worth 0", Told.of(river(2, 1) + "person stride 2 weight 1 worth 0;").over(0, 1), 0);
    B.due("worth 99", Told.of(river(2, 1) + "person stride 2 weight 1 worth 99;").over(0, 1), 99);
    B.says("weight 1 .. 3");
    for (int n = 1; n < 4; n++) {
      BearsTwo x = Told.of(river(2, 1) + "stone at 0 1 bears 3;person stride 1 weight " + n + " worth 1;");
      B.due("LEFT behind a step of weight " + n, x.step(0, 0), 3 - n);
    }
    B.says("stride 1 .. 9");
    for (int n = 1; n < 10; n++) {
      BearsTwo x = Told.of(river(12, 1) + (n < 9 ? "stone at 0 " + (n + 1) + " bears 9;" : "stone at 0 10 bears 9;") + "stone at 0 " + n + " bears 9;"
          + "person stride " + n + " weight 1 worth 1;");
      B.due("a step of " + (n + 1) + " by stride " + n, x.step(0, 0), -5);
      B.due("a step of " + n + " by stride " + n, x.step(0, 1), 8);
    }
  }

  private static void places() {
    B.says("none there yet; Y where a stone lies already");
    fault(river(3, 2) + STONE + ";stone at 0 ", "1 bears 1;", 2);
    fault(river(3, 2) + STONE + ";stone at 0 ", "01", 2);
    fine(river(3, 2) + STONE + ";stone at 1 1 bears 1;", 3);
    fine(river(3, 2) + STONE + ";stone at 0 2 bears 1;", 3);
    fine(river(3, 2) + STONE + ";stone at 0 2 bears 1;stone at 1 1 bears 1;stone at 1 2 bears 1;", 5);
    fault(river(3, 2) + STONE + ";stone at 0 2 bears 1;stone at 1 1 bears 1;stone at 1 2 bears 1;stone at 1 ", "2 bears 1;", 2);
    fault(river(3, 2) + STONE + ";stone at 0 2 bears 1;stone at 1 1 bears 1;stone at 1 2 bears 1;stone at 0 ", "1 bears 1;", 2);
    B.says("P a PERSON told ahead who goes hand in hand with nobody");
    String three = river(2, 1) + PERSON + ";" + PERSON + " hand 0;" + PERSON + ";" + PERSON + " hand ";
    fault(three, "0;", 2);
    fault(three, "1;", 2);
    fine(three + "2;", 5);
    fault(three, "3;", 2);
    fault(three, "4;", 2);
    fine(river(2, 1) + (PERSON + ";").repeat(4) + PERSON + " hand 3;" + PERSON + " hand 2;" + PERSON + " hand 1;" + PERSON + " hand 0;", 9);
    fault(river(2, 1) + (PERSON + ";").repeat(4) + PERSON + " hand 3;" + PERSON + " hand 2;" + PERSON + " hand 1;" + PERSON + " hand ", "4;", 2);
  }

  private static String stones(int n, String rest) {
    StringBuilder text = new StringBuilder();
    for (int k = 0; k < n; k++) text.append("stone at ").append(k % 20).append(' ').append(1 + k / 20).append(" bears 1").append(rest).append(';');
    return text.toString();
  }

  private static void crowds() {
    B.says("3 a 25th stone, a 9th person, at its word");
    fine(river(3, 20) + stones(24, ""), 25);
    fault(river(3, 20) + stones(24, ""), "stone at 4 2 bears 1;", 3);
    fault(river(3, 20) + stones(24, ""), "stone", 3);
    fault(river(3, 20) + stones(24, ""), "stone#", 3);
    fault(river(3, 20) + stones(24, ""), "stone 4", 3);
    fault(river(3, 20) + stones(24, "") + "\n ", "stone at 0 1 bears 0;", 3);
    fault(river(3, 20) + stones(24, ""), "stones at 4 2 bears 1;", 1);
    fault(river(3, 20) + stones(24, "") + "plank ", "stone", 1);
    fine(river(3, 20) + stones(24, "") + (PERSON + ";").repeat(8) + "plank 1;", 34);
    fine(river(2, 1) + (PERSON + ";").repeat(8), 9);
    fault(river(2, 1) + (PERSON + ";").repeat(8), PERSON + ";", 3);
    fault(river(2, 1) + (PERSON + ";").repeat(8), "person", 3);
    fault(river(2, 1) + (PERSON + ";").repeat(8) + "stone at 0 1 bears 1 ", "person", 1);
    fault(river(2, 1) + (PERSON + ";").repeat(8) + STONE + ";", PERSON + ";", 3);
    BearsTwo x = Told.of(river(3, 20) + stones(24, "") + (PERSON + ";").repeat(8));
    B.due("count(2)", x.count(2), 24);
    B.due("count(3)", x.count(3), 8);
    B.due("stone(23, 0)", x.stone(23, 0), 3);
    B.due("person(7, 2)", x.person(7, 2), 7);
    B.says("doubt 1 .. 99 (four stones at most); the word doubt of a fifth");
    fine(river(2, 20) + stones(4, " doubt 5"), 5);
    fine(river(2, 20) + stones(4, " doubt 5") + "stone at 9 1 bears 1;stone at 10 1 bears 1 sinks 3;", 7);
    fault(river(2, 20) + stones(4, " doubt 5") + "stone at 9 1 bears 1 ", "doubt 5;", 2);
    fault(river(2, 20) + stones(4, " doubt 5") + "stone at 9 1 bears 1 sinks 3 ", "doubt 5;", 2);
    fault(river(2, 20) + stones(4, " doubt 5") + "stone at 9 1 bears 1;stone at 10 1 bears 1 ", "doubt", 2);
    fault(river(2, 20) + stones(4, " doubt 5") + "stone at 9 1 bears 1 ", "doubts", 1);
    fault(river(2, 20) + stones(3, " doubt 5") + "stone at 9 1 bears 1 doubt ", ";", 1);
    B.says("plank told already (at it)");
    fine(river(2, 1) + "plank 1;", 2);
    fault(river(2, 1) + "plank 1;", "plank 1;", 2);
    fault(river(2, 1) + "plank 1;" + STONE + ";", "plank", 2);
    fault(river(2, 1) + "plank 1;", "planks", 1);
  }

  private static void grammar() {
    B.says("stone at N N bears N [sinks N] [doubt N]");
    fine(river(2, 1) + STONE + " sinks 1 doubt 1;", 2);
    fine(river(2, 1) + STONE + " sinks 1;", 2);
    fine(river(2, 1) + STONE + " doubt 1;", 2);
    fault(river(2, 1) + STONE + " doubt 1 ", "sinks 1;", 1);
    fault(river(2, 1) + STONE + " sinks 1 ", "sinks 1;", 1);
    fault(river(2, 1) + STONE + " doubt 1 ", "doubt 1;", 1);
    fault(river(2, 1) + STONE + " ", "must;", 1);
    fault(river(2, 1) + STONE + " ", "1;", 1);
    fault(river(2, 1) + "stone ", "0 1 bears 1;", 1);
    fault(river(2, 1) + "stone at 0 1 ", "sinks 1;", 1);
    fault(river(2, 1) + "stone at 0 1 ", ";", 1);
    fault(river(2, 1) + "stone at 0 ", "bears 1;", 1);
    B.says("person stride N weight N worth N [must] [back] [hand P]");
    String two = river(2, 1) + PERSON + ";" + PERSON;
    String[] tails = {"", " must", " back", " must back", " hand 0", " must hand 0", " back hand 0", " must back hand 0"};
    for (String tail : tails) {
      fine(two + tail + ";", 3);
      fault(two + tail, "", 1);
      fineIf(tail.isEmpty(), two + tail + " ", "must;");
      fineIf(!tail.contains("back") && !tail.contains("hand"), two + tail + " ", "back;");
      fineIf(!tail.contains("hand"), two + tail + " ", "hand 0;");
      fault(two + tail + " ", "doubt 5;", 1);
    }
    fault(river(2, 1) + "person ", "weight 1 stride 1 worth 1;", 1);
    fault(river(2, 1) + "person stride 1 ", "worth 1;", 1);
    fault(river(2, 1) + "person stride 1 weight 1", ";", 1);
    fault("river ", "long 1 wide 2;", 1);
    fault("river wide 2 ", ";", 1);
    fault("river wide 2 long 1 ", "wide 2;", 1);
  }

  private static void fineIf(boolean isFine, String ahead, String behind) {
    if (isFine) fine(ahead + behind, 3);
    else fault(ahead, behind, 1);
  }

  /** Every byte, as the first of a text, behind a number, behind a word, behind a sign. */
  private static void tokens() {
    B.says("TOKENS, blanks (32, 10) aside, the longest: words (a .. z), numbers (digits), the sign ;");
    for (char b = 0; b < 256; b++) {
      boolean isBlank = b == 32 || b == 10, isDigit = b >= '0' && b <= '9', isLetter = b >= 'a' && b <= 'z';
      String river = "river wide 2 long 1";
      if (isBlank) fine(b + river + ";", 1);
      else fault("", b + river + ";", 1);
      if (isBlank || isDigit) fine(river + b + ";", 1);
      else if (b == ';') fault(river + ";", ";", 1);
      else fault(river, b + ";", 1);
      if (isBlank) fine("river" + b + "wide 2 long 1;", 1);
      else if (isLetter) fault("", "river" + b + "wide 2 long 1;", 1);
      else fault("river", b + "wide 2 long 1;", 1);
      if (isBlank) fine(river + ";" + b, 1);
      else fault(river + ";", b + "", 1);
    }
    fine("river wide2long1;", 1);
    fine("river\nwide\n2\nlong\n1\n;\n", 1);
    fine("river wide 12long 1;", 1);
    fault("", "riverwide 2 long 1;", 1);
    fault("", "rive", 1);
    fault("", "riverr wide 2 long 1;", 1);
    fault("river wide ", "1 2 long 1;", 2);
    fault("river wide 2", "w long 1;", 1);
  }

  private static void faultPlaces() {
    B.says("FAULTS, the first by its place (a TOKEN's first byte; the end's), of one place the least");
    fault("river wide ", "1 long 0;", 2);
    fault("river wide ", "1 # long 1;", 2);
    fault("river wide 2 ", "# long 0;", 1);
    fault("river wide 2 long ", "21", 2);
    fault("river wide 2 long 1", "", 1);
    fault("", "x", 1);
    fault("\n \n ", "x", 1);
    // The last byte of the longest TAPE, and its end.
    fault(river(2, 1) + " ".repeat(1579), "#", 1);
    fault("river wide 2 long 1" + " ".repeat(1581), "", 1);
    fine(river(2, 1) + " ".repeat(1580), 1);
    fine(" ".repeat(1580) + river(2, 1), 1);
    fault(" ".repeat(1580) + "river wide ", "13 longs", 2);
    // At one place 1 is less than 2 and 3: the word can't stand there at all.
    fault(river(2, 20) + stones(4, " doubt 5") + "stone at 9 1 ", "doubt 5;", 1);
    fault(river(2, 1) + "plank 1;" + STONE + " ", "plank 1;", 1);
    fault(river(3, 20) + stones(24, "") + "plank 1 ", "stone at 4 2 bears 1;", 1);
  }

  private static void fault() {
    B.says("fault: NONE for another what, and ahead of any (what 1)");
    BearsTwo x = new BearsTwo();
    B.due("fault(0) ahead of any", x.fault(0), 0);
    B.due("fault(1) ahead of any", x.fault(1), -1);
    int[] others = {-1, 2, 3, Integer.MIN_VALUE, Integer.MAX_VALUE};
    for (int what : others) {
      B.due("fault(" + what + ") ahead of any", x.fault(what), -1);
      B.stays("fault(" + what + ")", y -> y.fault(what), -1);
    }
    B.stays("fault(0)", y -> y.fault(0), 2);
    B.stays("fault(1)", y -> y.fault(1), 11);
    B.says("fault: of the latest river()");
    Told.feed(x, "river wide 1");
    x.river();
    B.due("fault(0)", x.fault(0), 2);
    B.due("fault(1)", x.fault(1), 11);
    Told.feed(x, "#");
    x.river();
    B.due("fault(0) of the next", x.fault(0), 1);
    B.due("fault(1) of the next", x.fault(1), 0);
    x.image(0);
    Told.feed(x, river(2, 1));
    x.river();
    B.due("fault(0) of a sound one", x.fault(0), 0);
    B.due("fault(1) of a sound one", x.fault(1), -1);
    x.back(0);
    B.due("fault(0) behind back", x.fault(0), 0);
    Told.feed(x, "##");
    x.end(1);
    B.due("fault(0) ahead of the next", x.fault(0), 0);
    x.river();
    B.due("fault(0) of the last", x.fault(0), 1);
  }

  private static void river() {
    B.says("The TAPE (empty then) is the RIVER (in place of another)");
    BearsTwo x = Bounds.Rich.make();
    B.due("river()", x.river(), 2);
    int[] counts = {2, 1, 0, 0, 0, 2, 0, 0, 0, 0, 4, 3};
    for (int what = 0; what < 12; what++) B.due("count(" + what + ")", x.count(what), counts[what]);
    B.due("stone(0, 0)", x.stone(0, 0), -2);
    B.due("person(0, 0)", x.person(0, 0), -2);
    B.due("reach(9)", x.reach(9), 0);
    B.due("fresh()", x.fresh(), 0);
    B.due("back(0): IMAGES stay", x.back(0), 0);
    B.due("count(1)", x.count(1), 2);
    B.says("-4: a FAULT (all stays); an empty TAPE is a RIVER of no LINES");
    BearsTwo y = Bounds.Rich.make();
    y.end(0);
    B.due("river() of an empty TAPE", y.river(), 0);
    int[] none = {0, 0, 0, 0, 0, 0, 0, 0, 0, 0, 0, 3};
    for (int what = 0; what < 12; what++) B.due("count(" + what + ")", y.count(what), none[what]);
    B.due("reach(1)", y.reach(1), -2);
    B.due("may(98, 99, 9)", y.may(98, 99, 9), -2);
    B.due("stone(0, 2)", y.stone(0, 2), -2);
    B.due("person(0, 0)", y.person(0, 0), -2);
    B.due("back(1)", y.back(1), 0);
    B.due("count(5)", y.count(5), 11);
    B.says("Behind river() all PEOPLE are at 98, it is HOUR 0, no STONE has borne a step, nothing is known of doubts");
    BearsTwo z = Bounds.Rich.make();
    z.end(0);
    Told.feed(z, Bounds.Rich.MAIN);
    B.due("river() of the same", z.river(), 11);
    BearsTwo fresh = Told.of(Bounds.Rich.MAIN);
    for (int what = 0; what < 11; what++) B.due("count(" + what + ")", z.count(what), fresh.count(what));
    B.due("HOUR", z.count(4), 0);
    for (int p = 0; p < 4; p++) B.due("person(" + p + ", 0)", z.person(p, 0), 98);
    for (int s = 0; s < 5; s++) B.due("stone(" + s + ", 3)", z.stone(s, 3), 0);
    B.due("stone(1, 4)", z.stone(1, 4), -1);
    B.due("stone(4, 4)", z.stone(4, 4), -1);
    B.due("stone(4, 2)", z.stone(4, 2), 5);
  }

  private static void newObject() {
    B.says("BearsTwo(): No RIVER");
    BearsTwo x = new BearsTwo();
    for (int what = 0; what < 12; what++) B.due("count(" + what + ")", x.count(what), 0);
    for (int k = 0; k < 3; k++) B.due("back(" + k + ")", x.back(k), -6);
    for (int slot = 0; slot < 4; slot++) B.due("judge(" + slot + ")", x.judge(slot), -6);
    B.due("fresh()", x.fresh(), 0);
    B.says("An object is used for at most 512 calls after it has been made");
    BearsTwo y = new BearsTwo();
    Told.feed(y, river(2, 1) + "stone at 0 1 bears 9;");
    // Told.feed makes 5 calls: count, three feeds, end.
    y.river();
    for (int call = 7; call < 512; call++) y.hour(call % 24);
    B.due("the 512th call", y.most(1, 2), 4);
  }

  public static void main(String[] args) {
    newObject();
    feed();
    end();
    cutTokens();
    lines();
    numbers();
    held();
    places();
    crowds();
    grammar();
    tokens();
    faultPlaces();
    fault();
    river();
    B.finish();
  }
}
