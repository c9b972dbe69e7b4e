import java.util.ArrayList;
import java.util.HashSet;
import java.util.List;
import java.util.Random;
import java.util.Set;

/** Texts of rivers drawn from a fixed seed, sound ones and faulty ones. */
final class Rivers {
  private final Random random;

  /** Rivers, found by search, in which one who went by three STONES has to give way on all three and the middle one is used again. */
  private static final String[] HARD = {
      "7 6; 3 5 1; 3 3 1; 0 2 2; 0 1 3; 1 5 2; 0 3 3; 4 2 1; 2 4 1; 3 6 2; 1 1 1; 5 5 3; 4 3 1; 1 4 3; 4 6 3; 1 3 3; 5 6 2; 5 3 2; 4 1 3; 3 4 1; 1 2 2; 5 4 3; 2 5 2; 0 6 2; 5 2 1",
      "10 12; 2 1 2; 4 4 1; 5 4 2; 3 9 1; 1 4 3; 0 4 1; 7 3 1; 1 5 2; 9 5 3; 3 2 2; 2 8 1; 10 4 2; 10 1 2; 10 3 1; 11 8 1; 0 7 3; 0 6 2; 11 1 1; 9 2 3; 11 3 3; 6 5 3; 4 7 3; 5 6 2; 11 9 2",
      "10 11; 2 6 1; 9 3 2; 2 3 3; 10 6 2; 3 7 3; 6 2 1; 9 5 2; 1 1 2; 10 5 2; 2 5 2; 9 8 3; 0 3 2; 5 2 1; 10 3 1; 6 4 1; 0 2 2; 4 8 1; 7 3 2; 4 5 1; 9 6 3; 3 1 1; 6 5 1; 4 7 2; 8 4 2",
      "9 9; 8 7 3; 6 2 3; 0 6 2; 2 8 1; 8 6 2; 3 5 3; 1 2 3; 4 4 1; 7 4 1; 1 3 2; 8 4 2; 0 2 2; 0 1 3; 4 7 1; 1 5 3; 5 4 3; 6 4 1; 3 3 1; 7 1 1; 1 4 3; 5 1 3; 3 7 3",
      "7 5; 4 3 2; 4 1 2; 1 2 2; 2 4 1; 0 2 2; 4 6 2; 4 4 2; 2 2 1; 1 1 3; 3 3 3; 3 2 3; 0 5 1; 2 1 3; 0 4 3; 0 3 2; 1 6 1; 1 5 1; 4 5 2; 3 6 1; 2 6 2; 3 5 2; 1 4 1; 2 3 1"};

  static int hardOnes() { return HARD.length; }

  /** Each LINE's numbers: wide and long, then X, Y and what it bears. */
  static String hard(int k) {
    StringBuilder text = new StringBuilder();
    for (String line : HARD[k].split("; ")) {
      String[] n = line.split(" ");
      text.append(n.length == 2 ? "river wide " + n[0] + " long " + n[1] + ";plank 3;" : "stone at " + n[0] + " " + n[1] + " bears " + n[2] + ";");
    }
    return text.toString();
  }

  Rivers(Random random) { this.random = random; }

  private int in(int low, int high) { return low + random.nextInt(high - low + 1); }

  private boolean one(int of) { return random.nextInt(of) == 0; }

  /** At most so many stones, and a few people. */
  String sound(int stones, int people) {
    int wide = in(2, one(4) ? 12 : 6), len = in(1, one(4) ? 20 : 6);
    List<String> lines = new ArrayList<>();
    Set<Integer> taken = new HashSet<>();
    int doubts = 0;
    for (int k = 0; k < stones; k++) {
      int x = in(0, len - 1), y = in(1, wide - 1);
      if (!taken.add(100 * y + x)) continue;
      String line = "stone at " + x + " " + y + " bears " + in(1, one(3) ? 9 : 3);
      if (one(4)) line += " sinks " + in(1, 23);
      if (doubts < 4 && one(3)) {
        line += " doubt " + in(1, 99);
        doubts++;
      }
      lines.add(line);
    }
    int firstPerson = lines.size();
    Set<Integer> hands = new HashSet<>();
    for (int p = 0; p < people; p++) {
      String line = "person stride " + in(1, one(5) ? 9 : 4) + " weight " + in(1, one(3) ? 3 : 1) + " worth " + in(0, one(2) ? 99 : 5);
      if (one(3)) line += " must";
      if (one(2)) line += " back";
      int partner = p == 0 ? -1 : in(0, p - 1);
      if (one(3) && partner >= 0 && hands.add(partner)) {
        hands.add(p);
        line += " hand " + partner;
      }
      lines.add(line);
    }
    if (one(2)) lines.add(in(0, lines.size()), "plank " + in(1, one(3) ? 9 : 3));
    if (firstPerson > 0 && one(3)) lines.add(in(0, lines.size() - 1), lines.remove(in(0, firstPerson - 1)));
    StringBuilder text = new StringBuilder("river wide " + wide + " long " + len + ";");
    for (String line : lines) text.append(blank(false)).append(line.replace(" ", blank(true))).append(blank(false)).append(";");
    return text.append(blank(false)).toString();
  }

  /** A narrow river of few columns, where all go by the same stones and much is in doubt. */
  String tight(int people) {
    int wide = in(2, 4), len = in(1, 4), doubts = 0, p = 0;
    StringBuilder text = new StringBuilder("river wide " + wide + " long " + len + ";");
    for (int y = 1; y < wide; y++)
      for (int x = 0; x < len; x++) {
        if (one(5)) continue;
        text.append("stone at " + x + " " + y + " bears " + in(1, 4));
        if (one(6)) text.append(" sinks " + in(1, 23));
        if (doubts < 4 && one(2)) {
          text.append(" doubt " + in(1, 99));
          doubts++;
        }
        text.append(";");
      }
    for (; p < people; p++) {
      text.append("person stride " + in(1, 2) + " weight " + in(1, 2) + " worth " + in(0, 20) + (one(4) ? " must" : "") + (one(2) ? " back" : ""));
      if (p % 2 == 1 && one(4)) text.append(" hand " + (p - 1));
      text.append(";");
    }
    return text + (one(2) ? "plank " + in(1, 3) + ";" : "");
  }

  /** As much as a RIVER may have: 24 stones, four in doubt, eight people, a plank. */
  String full() {
    int wide = in(3, 6), len = in(12, 20), doubts = 0;
    List<Integer> places = new ArrayList<>();
    for (int y = 1; y < wide; y++) for (int x = 0; x < len; x++) places.add(100 * y + x);
    java.util.Collections.shuffle(places, random);
    StringBuilder text = new StringBuilder("river wide " + wide + " long " + len + ";");
    for (int k = 0; k < 24; k++) {
      text.append("stone at " + places.get(k) % 100 + " " + places.get(k) / 100 + " bears " + in(1, 9));
      if (one(8)) text.append(" sinks " + in(1, 23));
      if (doubts < 4 && (k >= 20 || one(4))) {
        text.append(" doubt " + in(1, 99));
        doubts++;
      }
      text.append(";");
    }
    for (int p = 0; p < 8; p++) {
      text.append("person stride " + in(1, 3) + " weight " + in(1, 3) + " worth " + in(0, 99) + (one(3) ? " must" : "") + (one(2) ? " back" : ""));
      text.append(p % 2 == 1 && one(2) ? " hand " + (p - 1) + ";" : ";");
    }
    return text + "plank " + in(1, 4) + ";";
  }

  /** A broad river full of stones that bear little, where rows that were taken first must often give way. */
  String deep() {
    int wide = in(5, 9), len = in(3, 6), stones = 0;
    StringBuilder text = new StringBuilder("river wide " + wide + " long " + len + ";plank " + in(1, 4) + ";");
    for (int y = 1; y < wide; y++)
      for (int x = 0; x < len; x++) {
        if (one(3) || stones == 24) continue;
        text.append("stone at " + x + " " + y + " bears " + in(1, one(3) ? 5 : 2) + ";");
        stones++;
      }
    return text.toString();
  }

  private String blank(boolean needed) {
    if (one(20)) return " \n ";
    return needed ? one(20) ? "\n" : " " : one(20) ? " " : "";
  }

  /** Something of a sound text is gone, put in or put in place of something. */
  String faulty(int stones, int people) {
    List<String> tokens = new ArrayList<>(List.of(sound(stones, people).replace(";", " ; ").trim().split("[ \n]+")));
    String[] words = {"river", "wide", "long", "stone", "at", "bears", "sinks", "doubt", "person", "stride", "weight", "worth",
        "must", "back", "hand", "plank", ";", "0", "1", "2", "9", "10", "99", "100", "007", "99999999999999999999", "stones",
        "#", "A", "-", "\t", "\u00e9", "\u0000", "plank 3 ;", "stone at 0 1 bears 1 ;", "person stride 1 weight 1 worth 1 ;",
        "person stride 1 weight 1 worth 1 hand 0 ;"};
    for (int k = in(1, 2); k > 0; k--) {
      int i = in(0, tokens.size() - 1);
      String word = words[random.nextInt(words.length)];
      switch (random.nextInt(4)) {
        case 0: if (tokens.size() > 1) tokens.remove(i); break;
        case 1: tokens.add(i, word); break;
        case 2: tokens.set(i, word); break;
        default:
          while (tokens.size() > i + 1 && one(2)) tokens.remove(tokens.size() - 1);
      }
    }
    StringBuilder text = new StringBuilder();
    for (String token : tokens) text.append(token).append(one(30) ? "" : blank(true));
    return text.toString();
  }

  /** Too many of something. */
  String crowded() {
    StringBuilder text = new StringBuilder("river wide 12 long 20;");
    int kind = random.nextInt(3), n = in(3, 27);
    for (int k = 0; k < n; k++) {
      if (kind == 0) text.append("stone at " + k % 20 + " " + (1 + k / 20) + " bears 1;");
      else if (kind == 1) text.append("person stride 1 weight 1 worth 1;");
      else text.append("stone at " + k % 20 + " " + (1 + k / 20) + " bears 1 doubt 5;");
    }
    return text.toString();
  }
}
